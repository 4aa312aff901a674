/-! each method does what its mirror says -/
set_option maxRecDepth 100000 in
set_option maxHeartbeats 4000000 in
theorem ok_m_night {l : Launch} {D : va_G} {cy : Nat → ClassId} {ad sa : Nat → Nat} {A : Nat → Prop} {F : Nat} {a1 : Int32} {s0 : St} {ρ : Int32} {σ' : St} (h : m_night F a1 s0 = some (ρ, σ')) : gMi l shM D cy ad sa A yX12_night cX12_night 4 (some .int) 5 [.ref (ad 0), .int a1] s0 ρ σ' := by
  refine gM_of (by decide) (Nat.le_of_ble_eq_true rfl) ?_
  intro p e s m args below meth c ls X G Y hr hlk hl
  have hl : lv_has ls 4 [(0, .ref (ad 0)), (1, .int a1)] := hl
  have b53 : ∀ n : Nat, ∀ (x1 : Int32) (x2 : Int32) (s0 : St) (H : Heap) (locs : List Loc) (ls : Array Slot), m_night_L53 F  n x1 x2 s0 = some (ρ, σ') → gY shM D cy ad A s0 s H locs → lv_has ls 4 [(0, .ref (ad 0)), (1, .int x1), (2, .int x2)] → W p l e (grm 5) s m args below meth c H locs 0 0 (MQ below (va_Qi (fun (q : Int32) (_ : Unit) => q = ρ) (fun _ t => va_P D vwCl (gWl shM cy ad σ') t.heap) A) args s 0 0 A) (F0 m 53 ls []) := by
    intro n
    induction n with
    | zero => intro x1 x2 s0 H locs ls h Y hl; exact (gnone h).elim
    | succ n hk53 =>
      have e : m_night_L53 F  (n + 1) = m_night_L53b F  (m_night_L53 F  n) := rfl
      rw [e]; clear e
      generalize m_night_L53 F  n = k53 at hk53 ⊢
      have b141 : ∀ n : Nat, ∀ (x1 : Int32) (x2 : Int32) (x3 : Int32) (s0 : St) (H : Heap) (locs : List Loc) (ls : Array Slot), m_night_L141 F k53 n x1 x2 x3 s0 = some (ρ, σ') → gY shM D cy ad A s0 s H locs → lv_has ls 4 [(0, .ref (ad 0)), (1, .int x1), (2, .int x2), (3, .int x3)] → W p l e (grm 5) s m args below meth c H locs 0 0 (MQ below (va_Qi (fun (q : Int32) (_ : Unit) => q = ρ) (fun _ t => va_P D vwCl (gWl shM cy ad σ') t.heap) A) args s 0 0 A) (F0 m 141 ls []) := by
        intro n
        induction n with
        | zero => intro x1 x2 x3 s0 H locs ls h Y hl; exact (gnone h).elim
        | succ n hk141 =>
          have e : m_night_L141 F k53 (n + 1) = m_night_L141b F k53 (m_night_L141 F k53 n) := rfl
          rw [e]; clear e
          generalize m_night_L141 F k53 n = k141 at hk141 ⊢
          intro x1 x2 x3 s0 H locs ls h Y hl
          unfold m_night_L141b at h
          refine lv_iload_n X.1 X.2.1 (dck_at da_X12_night 83 rfl) rfl (lv_at hl 3 rfl) ?_
          refine lv_sipush X.1 X.2.1 (dck_at da_X12_night 84 rfl) ks_720 ?_
          refine lv_icmp_ge (tgt := 166) X.1 X.2.1 (dck_at da_X12_night 85 rfl) rfl (fun c => ?_) (fun c => ?_)
          · have h := gI_pos h c
            refine lv_aload_n X.1 X.2.1 (dck_at da_X12_night 96 rfl) rfl (lv_at hl 0 rfl) ?_
            refine lv_dup X.1 X.2.1 (dck_at da_X12_night 97 rfl) rfl ?_
            refine gr_getI X G Y fk_RX12_107 clM_0 rfl (dck_at da_X12_night 98 rfl) ?_
            refine lv_iconst X.1 X.2.1 (dck_at da_X12_night 99 rfl) ki_1 ?_
            refine lv_iadd X.1 X.2.1 (dck_at da_X12_night 100 rfl) ?_
            refine gr_putI X G Y fp_RX12_107 clM_0 rfl (dck_at da_X12_night 101 rfl) (fun H locs Y => ?_)
            refine lv_iinc (v := x2 + (1 : Int32)) (lv' := [(2, .int (x2 + (1 : Int32))), (0, .ref (ad 0)), (1, .int x1), (3, .int x3)]) X.1 X.2.1 (dck_at da_X12_night 102 rfl) hl (k := 2) rfl (congrArg (HAdd.hAdd _) ki_1) (by decide) rfl (fun ls hl => ?_)
            refine lv_goto (tgt := 53) X.1 X.2.1 (dck_at da_X12_night 103 rfl) rfl ?_
            exact hk53 x1 (x2 + (1 : Int32)) (sI s0 0 13 ((s0.1 0 13) + (1 : Int32))) _ _ _ h Y (lv_sub hl [1, 2, 0] rfl)
          · have h := gI_neg h c
            refine lv_aload_n X.1 X.2.1 (dck_at da_X12_night 86 rfl) rfl (lv_at hl 0 rfl) ?_
            refine gr_getR X G Y fk_RX12_34 clM_0 rfl (dck_at da_X12_night 87 rfl) ?_
            refine lv_iload_n X.1 X.2.1 (dck_at da_X12_night 88 rfl) rfl (lv_at hl 3 rfl) ?_
            refine lv_aload_n X.1 X.2.1 (dck_at da_X12_night 89 rfl) rfl (lv_at hl 0 rfl) ?_
            refine gr_getR X G Y fk_RX12_38 clM_0 rfl (dck_at da_X12_night 90 rfl) ?_
            refine lv_iload_n X.1 X.2.1 (dck_at da_X12_night 91 rfl) rfl (lv_at hl 3 rfl) ?_
            obtain ⟨hin, h⟩ := gI_if h
            refine gr_lald X G Y clM_10 hin (dck_at da_X12_night 92 rfl) ?_
            obtain ⟨hin, h⟩ := gI_if h
            refine gr_last X G Y clM_9 hin (dck_at da_X12_night 93 rfl) (fun H locs Y => ?_)
            refine lv_iinc (v := x3 + (1 : Int32)) (lv' := [(3, .int (x3 + (1 : Int32))), (0, .ref (ad 0)), (1, .int x1), (2, .int x2)]) X.1 X.2.1 (dck_at da_X12_night 94 rfl) hl (k := 3) rfl (congrArg (HAdd.hAdd _) ki_1) (by decide) rfl (fun ls hl => ?_)
            refine lv_goto (tgt := 141) X.1 X.2.1 (dck_at da_X12_night 95 rfl) rfl ?_
            exact hk141 x1 x2 (x3 + (1 : Int32)) (sJ s0 9 (x3).toNatClampNeg (s0.2 10 (x3).toNatClampNeg)) _ _ _ h Y (lv_sub hl [1, 2, 3, 0] rfl)
      have b98 : ∀ n : Nat, ∀ (x1 : Int32) (x2 : Int32) (x3 : Int32) (s0 : St) (H : Heap) (locs : List Loc) (ls : Array Slot), m_night_L98 F k53 n x1 x2 x3 s0 = some (ρ, σ') → gY shM D cy ad A s0 s H locs → lv_has ls 4 [(0, .ref (ad 0)), (1, .int x1), (2, .int x2), (3, .int x3)] → W p l e (grm 5) s m args below meth c H locs 0 0 (MQ below (va_Qi (fun (q : Int32) (_ : Unit) => q = ρ) (fun _ t => va_P D vwCl (gWl shM cy ad σ') t.heap) A) args s 0 0 A) (F0 m 98 ls []) := by
        intro n
        induction n with
        | zero => intro x1 x2 x3 s0 H locs ls h Y hl; exact (gnone h).elim
        | succ n hk98 =>
          have e : m_night_L98 F k53 (n + 1) = m_night_L98b F k53 (m_night_L98 F k53 n) := rfl
          rw [e]; clear e
          generalize m_night_L98 F k53 n = k98 at hk98 ⊢
          have b133 : ∀ (x1 : Int32) (x2 : Int32) (x3 : Int32) (s0 : St) (H : Heap) (locs : List Loc) (ls : Array Slot), m_night_J133 F k53 k98 x1 x2 x3 s0 = some (ρ, σ') → gY shM D cy ad A s0 s H locs → lv_has ls 4 [(0, .ref (ad 0)), (1, .int x1), (2, .int x2), (3, .int x3)] → W p l e (grm 5) s m args below meth c H locs 0 0 (MQ below (va_Qi (fun (q : Int32) (_ : Unit) => q = ρ) (fun _ t => va_P D vwCl (gWl shM cy ad σ') t.heap) A) args s 0 0 A) (F0 m 133 ls []) := by
            intro x1 x2 x3 s0 H locs ls h Y hl
            unfold m_night_J133 at h
            refine lv_iinc (v := x3 + (1 : Int32)) (lv' := [(3, .int (x3 + (1 : Int32))), (0, .ref (ad 0)), (1, .int x1), (2, .int x2)]) X.1 X.2.1 (dck_at da_X12_night 79 rfl) hl (k := 3) rfl (congrArg (HAdd.hAdd _) ki_1) (by decide) rfl (fun ls hl => ?_)
            refine lv_goto (tgt := 98) X.1 X.2.1 (dck_at da_X12_night 80 rfl) rfl ?_
            exact hk98 x1 x2 (x3 + (1 : Int32)) s0 _ _ _ h Y (lv_sub hl [1, 2, 3, 0] rfl)
          intro x1 x2 x3 s0 H locs ls h Y hl
          unfold m_night_L98b at h
          refine lv_iload_n X.1 X.2.1 (dck_at da_X12_night 56 rfl) rfl (lv_at hl 3 rfl) ?_
          refine lv_sipush X.1 X.2.1 (dck_at da_X12_night 57 rfl) ks_720 ?_
          refine lv_icmp_ge (tgt := 139) X.1 X.2.1 (dck_at da_X12_night 58 rfl) rfl (fun c => ?_) (fun c => ?_)
          · have h := gI_pos h c
            refine lv_iconst X.1 X.2.1 (dck_at da_X12_night 81 rfl) ki_0 ?_
            refine lv_istore_n (lv' := [(3, .int (0 : Int32)), (0, .ref (ad 0)), (1, .int x1), (2, .int x2)]) X.1 X.2.1 (dck_at da_X12_night 82 rfl) rfl hl (by decide) rfl (fun ls hl => ?_)
            exact b141 F x1 x2 (0 : Int32) s0 _ _ _ h Y (lv_sub hl [1, 2, 3, 0] rfl)
          · have h := gI_neg h c
            refine lv_iload_n X.1 X.2.1 (dck_at da_X12_night 59 rfl) rfl (lv_at hl 3 rfl) ?_
            refine lv_iconst X.1 X.2.1 (dck_at da_X12_night 60 rfl) ki_5 ?_
            refine lv_irem X.1 X.2.1 (dck_at da_X12_night 61 rfl) (by decide) ?_
            refine lv_iconst X.1 X.2.1 (dck_at da_X12_night 62 rfl) ki_4 ?_
            refine lv_icmp_ge (tgt := 133) X.1 X.2.1 (dck_at da_X12_night 63 rfl) rfl (fun c => ?_) (fun c => ?_)
            · have h := gI_pos h c
              exact b133 x1 x2 x3 s0 _ _ _ h Y (lv_sub hl [0, 1, 2, 3] rfl)
            · have h := gI_neg h c
              refine lv_aload_n X.1 X.2.1 (dck_at da_X12_night 64 rfl) rfl (lv_at hl 0 rfl) ?_
              refine gr_getR X G Y fk_RX12_34 clM_0 rfl (dck_at da_X12_night 65 rfl) ?_
              refine lv_iload_n X.1 X.2.1 (dck_at da_X12_night 66 rfl) rfl (lv_at hl 3 rfl) ?_
              obtain ⟨hin, h⟩ := gI_if h
              refine gr_lald X G Y clM_9 hin (dck_at da_X12_night 67 rfl) ?_
              refine lv_lconst (v := 0) X.1 X.2.1 (dck_at da_X12_night 68 rfl) rfl ?_
              refine W.lcmp X.1 X.2.1 (dck_at da_X12_night 69 rfl) ?_
              refine lv_if_le (tgt := 133) X.1 X.2.1 (dck_at da_X12_night 70 rfl) rfl (fun c => ?_) (fun c => ?_)
              · have h := gI_pos h c
                exact b133 x1 x2 x3 s0 _ _ _ h Y (lv_sub hl [0, 1, 2, 3] rfl)
              · have h := gI_neg h c
                refine lv_aload_n X.1 X.2.1 (dck_at da_X12_night 71 rfl) rfl (lv_at hl 0 rfl) ?_
                refine lv_iload_n X.1 X.2.1 (dck_at da_X12_night 72 rfl) rfl (lv_at hl 3 rfl) ?_
                refine lv_iconst X.1 X.2.1 (dck_at da_X12_night 73 rfl) ki_5 ?_
                refine lv_idiv X.1 X.2.1 (dck_at da_X12_night 74 rfl) (by decide) ?_
                refine lv_iload_n X.1 X.2.1 (dck_at da_X12_night 75 rfl) rfl (lv_at hl 3 rfl) ?_
                refine lv_iconst X.1 X.2.1 (dck_at da_X12_night 76 rfl) ki_5 ?_
                refine lv_irem X.1 X.2.1 (dck_at da_X12_night 77 rfl) (by decide) ?_
                obtain ⟨s1, hc, h⟩ := gB_some h
                refine gr_backv Y (gr_runV (as := [.int (x3 / (5 : Int32)), .int (x3 - x3 / (5 : Int32) * (5 : Int32))]) (rest := []) X G Y (ok_m_goes hc) cv_RX12_208 clM_0 ⟨Nat.le_of_ble_eq_true rfl, Nat.le_of_ble_eq_true rfl⟩ rfl hl.1 (Nat.le_of_ble_eq_true rfl) (dck_at da_X12_night 78 rfl)) (fun H locs Y => ?_)
                exact b133 x1 x2 x3 s1 _ _ _ h Y (lv_sub hl [0, 1, 2, 3] rfl)
      have b60 : ∀ n : Nat, ∀ (x1 : Int32) (x2 : Int32) (x3 : Int32) (s0 : St) (H : Heap) (locs : List Loc) (ls : Array Slot), m_night_L60 F k53 n x1 x2 x3 s0 = some (ρ, σ') → gY shM D cy ad A s0 s H locs → lv_has ls 4 [(0, .ref (ad 0)), (1, .int x1), (2, .int x2), (3, .int x3)] → W p l e (grm 5) s m args below meth c H locs 0 0 (MQ below (va_Qi (fun (q : Int32) (_ : Unit) => q = ρ) (fun _ t => va_P D vwCl (gWl shM cy ad σ') t.heap) A) args s 0 0 A) (F0 m 60 ls []) := by
        intro n
        induction n with
        | zero => intro x1 x2 x3 s0 H locs ls h Y hl; exact (gnone h).elim
        | succ n hk60 =>
          have e : m_night_L60 F k53 (n + 1) = m_night_L60b F k53 (m_night_L60 F k53 n) := rfl
          rw [e]; clear e
          generalize m_night_L60 F k53 n = k60 at hk60 ⊢
          have b89 : ∀ (x1 : Int32) (x2 : Int32) (x3 : Int32) (y1 : Int32) (y2 : Int64) (s0 : St) (H : Heap) (locs : List Loc) (ls : Array Slot), m_night_J89 F k53 k60 x1 x2 x3 y1 y2 s0 = some (ρ, σ') → gY shM D cy ad A s0 s H locs → lv_has ls 4 [(0, .ref (ad 0)), (1, .int x1), (2, .int x2), (3, .int x3)] → W p l e (grm 5) s m args below meth c H locs 0 0 (MQ below (va_Qi (fun (q : Int32) (_ : Unit) => q = ρ) (fun _ t => va_P D vwCl (gWl shM cy ad σ') t.heap) A) args s 0 0 A) (F0 m 89 ls [.long y2, .int y1, .ref (ad 10)]) := by
            intro x1 x2 x3 y1 y2 s0 H locs ls h Y hl
            unfold m_night_J89 at h
            obtain ⟨hin, h⟩ := gI_if h
            refine gr_last X G Y clM_10 hin (dck_at da_X12_night 51 rfl) (fun H locs Y => ?_)
            refine lv_iinc (v := x3 + (1 : Int32)) (lv' := [(3, .int (x3 + (1 : Int32))), (0, .ref (ad 0)), (1, .int x1), (2, .int x2)]) X.1 X.2.1 (dck_at da_X12_night 52 rfl) hl (k := 3) rfl (congrArg (HAdd.hAdd _) ki_1) (by decide) rfl (fun ls hl => ?_)
            refine lv_goto (tgt := 60) X.1 X.2.1 (dck_at da_X12_night 53 rfl) rfl ?_
            exact hk60 x1 x2 (x3 + (1 : Int32)) (sJ s0 10 (y1).toNatClampNeg y2) _ _ _ h Y (lv_sub hl [1, 2, 3, 0] rfl)
          intro x1 x2 x3 s0 H locs ls h Y hl
          unfold m_night_L60b at h
          refine lv_iload_n X.1 X.2.1 (dck_at da_X12_night 34 rfl) rfl (lv_at hl 3 rfl) ?_
          refine lv_sipush X.1 X.2.1 (dck_at da_X12_night 35 rfl) ks_720 ?_
          refine lv_icmp_ge (tgt := 96) X.1 X.2.1 (dck_at da_X12_night 36 rfl) rfl (fun c => ?_) (fun c => ?_)
          · have h := gI_pos h c
            refine lv_iconst X.1 X.2.1 (dck_at da_X12_night 54 rfl) ki_0 ?_
            refine lv_istore_n (lv' := [(3, .int (0 : Int32)), (0, .ref (ad 0)), (1, .int x1), (2, .int x2)]) X.1 X.2.1 (dck_at da_X12_night 55 rfl) rfl hl (by decide) rfl (fun ls hl => ?_)
            exact b98 F x1 x2 (0 : Int32) s0 _ _ _ h Y (lv_sub hl [1, 2, 3, 0] rfl)
          · have h := gI_neg h c
            refine lv_aload_n X.1 X.2.1 (dck_at da_X12_night 37 rfl) rfl (lv_at hl 0 rfl) ?_
            refine gr_getR X G Y fk_RX12_38 clM_0 rfl (dck_at da_X12_night 38 rfl) ?_
            refine lv_iload_n X.1 X.2.1 (dck_at da_X12_night 39 rfl) rfl (lv_at hl 3 rfl) ?_
            refine lv_iload_n X.1 X.2.1 (dck_at da_X12_night 40 rfl) rfl (lv_at hl 3 rfl) ?_
            refine lv_iconst X.1 X.2.1 (dck_at da_X12_night 41 rfl) ki_5 ?_
            refine lv_irem X.1 X.2.1 (dck_at da_X12_night 42 rfl) (by decide) ?_
            refine lv_iconst X.1 X.2.1 (dck_at da_X12_night 43 rfl) ki_4 ?_
            refine lv_icmp_ne (tgt := 88) X.1 X.2.1 (dck_at da_X12_night 44 rfl) rfl (fun c => ?_) (fun c => ?_)
            · have h := gI_neg h c
              refine lv_lconst (v := 0) X.1 X.2.1 (dck_at da_X12_night 50 rfl) rfl ?_
              exact b89 x1 x2 x3 x3 (0 : Int64) s0 _ _ _ h Y (lv_sub hl [0, 1, 2, 3] rfl)
            · have h := gI_pos h c
              refine lv_aload_n X.1 X.2.1 (dck_at da_X12_night 45 rfl) rfl (lv_at hl 0 rfl) ?_
              refine gr_getR X G Y fk_RX12_34 clM_0 rfl (dck_at da_X12_night 46 rfl) ?_
              refine lv_iload_n X.1 X.2.1 (dck_at da_X12_night 47 rfl) rfl (lv_at hl 3 rfl) ?_
              obtain ⟨hin, h⟩ := gI_if h
              refine gr_lald X G Y clM_9 hin (dck_at da_X12_night 48 rfl) ?_
              refine lv_goto (tgt := 89) X.1 X.2.1 (dck_at da_X12_night 49 rfl) rfl ?_
              exact b89 x1 x2 x3 x3 (s0.2 9 (x3).toNatClampNeg) s0 _ _ _ h Y (lv_sub hl [0, 1, 2, 3] rfl)
      intro x1 x2 s0 H locs ls h Y hl
      unfold m_night_L53b at h
      refine lv_iload_n X.1 X.2.1 (dck_at da_X12_night 29 rfl) rfl (lv_at hl 2 rfl) ?_
      refine lv_iload_n X.1 X.2.1 (dck_at da_X12_night 30 rfl) rfl (lv_at hl 1 rfl) ?_
      refine lv_icmp_ge (tgt := 182) X.1 X.2.1 (dck_at da_X12_night 31 rfl) rfl (fun c => ?_) (fun c => ?_)
      · have h := gI_pos h c
        refine lv_aload_n X.1 X.2.1 (dck_at da_X12_night 104 rfl) rfl (lv_at hl 0 rfl) ?_
        refine gr_getI X G Y fk_RX12_107 clM_0 rfl (dck_at da_X12_night 105 rfl) ?_
        exact gr_iretO X Y h hr rfl hlk (dck_at da_X12_night 106 rfl)
      · have h := gI_neg h c
        refine lv_iconst X.1 X.2.1 (dck_at da_X12_night 32 rfl) ki_0 ?_
        refine lv_istore_n (lv' := [(3, .int (0 : Int32)), (0, .ref (ad 0)), (1, .int x1), (2, .int x2)]) X.1 X.2.1 (dck_at da_X12_night 33 rfl) rfl hl (by decide) rfl (fun ls hl => ?_)
        exact b60 F x1 x2 (0 : Int32) s0 _ _ _ h Y (lv_sub hl [1, 2, 3, 0] rfl)
  unfold m_night at h
  refine lv_iload_n X.1 X.2.1 (dck_at da_X12_night 0 rfl) rfl (lv_at hl 1 rfl) ?_
  refine lv_i2l (v := (a1).toInt64) X.1 X.2.1 (dck_at da_X12_night 1 rfl) rfl ?_
  refine lv_lconst (v := 1) X.1 X.2.1 (dck_at da_X12_night 2 rfl) rfl ?_
  refine lv_ldc2 X.1 X.2.1 X.2.2.2.1 (X.2.2.2.2 _ wm_1374) (dck_at da_X12_night 3 rfl) ?_
  obtain ⟨r2, s2, hc, h⟩ := gB2_some h
  refine gr_backi Y (gr_runS (as := [.long ((a1).toInt64), .long (1 : Int64), .long (60 : Int64)]) (rest := []) X G Y (ok_m_in hc) cs_RX12_126 ⟨Nat.le_of_ble_eq_true rfl, Nat.le_of_ble_eq_true rfl⟩ rfl hl.1 (Nat.le_of_ble_eq_true rfl) (dck_at da_X12_night 4 rfl)) (fun H locs Y => ?_)
  refine lv_if_ne (tgt := 18) X.1 X.2.1 (dck_at da_X12_night 5 rfl) rfl (fun c => ?_) (fun c => ?_)
  · have h := gI_neg h c
    refine lv_aload_n X.1 X.2.1 (dck_at da_X12_night 10 rfl) rfl (lv_at hl 0 rfl) ?_
    refine gr_getI X G Y fk_RX12_107 clM_0 rfl (dck_at da_X12_night 11 rfl) ?_
    refine lv_if_ge (tgt := 32) X.1 X.2.1 (dck_at da_X12_night 12 rfl) rfl (fun c => ?_) (fun c => ?_)
    · have h := gI_pos h c
      refine lv_aload_n X.1 X.2.1 (dck_at da_X12_night 17 rfl) rfl (lv_at hl 0 rfl) ?_
      refine gr_getI X G Y fk_RX12_107 clM_0 rfl (dck_at da_X12_night 18 rfl) ?_
      refine lv_iload_n X.1 X.2.1 (dck_at da_X12_night 19 rfl) rfl (lv_at hl 1 rfl) ?_
      refine lv_iadd X.1 X.2.1 (dck_at da_X12_night 20 rfl) ?_
      refine lv_sipush X.1 X.2.1 (dck_at da_X12_night 21 rfl) ks_999 ?_
      refine lv_icmp_le (tgt := 51) X.1 X.2.1 (dck_at da_X12_night 22 rfl) rfl (fun c => ?_) (fun c => ?_)
      · have h := gI_pos h c
        refine lv_iconst X.1 X.2.1 (dck_at da_X12_night 27 rfl) ki_0 ?_
        refine lv_istore_n (lv' := [(2, .int (0 : Int32)), (0, .ref (ad 0)), (1, .int a1)]) X.1 X.2.1 (dck_at da_X12_night 28 rfl) rfl hl (by decide) rfl (fun ls hl => ?_)
        exact b53 F a1 (0 : Int32) s2 _ _ _ h Y (lv_sub hl [1, 2, 0] rfl)
      · have h := gI_neg h c
        refine lv_aload_n X.1 X.2.1 (dck_at da_X12_night 23 rfl) rfl (lv_at hl 0 rfl) ?_
        refine lv_bipush X.1 X.2.1 (dck_at da_X12_night 24 rfl) kb_m3 ?_
        obtain ⟨r3, s3, hc, h⟩ := gB2_some h
        refine gr_backi Y (gr_runV (as := [.int (-3 : Int32)]) (rest := []) X G Y (ok_m_tells hc) cv_RX12_130 clM_0 ⟨Nat.le_of_ble_eq_true rfl, Nat.le_of_ble_eq_true rfl⟩ rfl hl.1 (Nat.le_of_ble_eq_true rfl) (dck_at da_X12_night 25 rfl)) (fun H locs Y => ?_)
        exact gr_iretO X Y h hr rfl hlk (dck_at da_X12_night 26 rfl)
    · have h := gI_neg h c
      refine lv_aload_n X.1 X.2.1 (dck_at da_X12_night 13 rfl) rfl (lv_at hl 0 rfl) ?_
      refine lv_bipush X.1 X.2.1 (dck_at da_X12_night 14 rfl) kb_m2 ?_
      obtain ⟨r4, s4, hc, h⟩ := gB2_some h
      refine gr_backi Y (gr_runV (as := [.int (-2 : Int32)]) (rest := []) X G Y (ok_m_tells hc) cv_RX12_130 clM_0 ⟨Nat.le_of_ble_eq_true rfl, Nat.le_of_ble_eq_true rfl⟩ rfl hl.1 (Nat.le_of_ble_eq_true rfl) (dck_at da_X12_night 15 rfl)) (fun H locs Y => ?_)
      exact gr_iretO X Y h hr rfl hlk (dck_at da_X12_night 16 rfl)
  · have h := gI_pos h c
    refine lv_aload_n X.1 X.2.1 (dck_at da_X12_night 6 rfl) rfl (lv_at hl 0 rfl) ?_
    refine lv_iconst X.1 X.2.1 (dck_at da_X12_night 7 rfl) ki_m1 ?_
    obtain ⟨r5, s5, hc, h⟩ := gB2_some h
    refine gr_backi Y (gr_runV (as := [.int (-1 : Int32)]) (rest := []) X G Y (ok_m_tells hc) cv_RX12_130 clM_0 ⟨Nat.le_of_ble_eq_true rfl, Nat.le_of_ble_eq_true rfl⟩ rfl hl.1 (Nat.le_of_ble_eq_true rfl) (dck_at da_X12_night 8 rfl)) (fun H locs Y => ?_)
    exact gr_iretO X Y h hr rfl hlk (dck_at da_X12_night 9 rfl)
set_option maxRecDepth 100000 in
set_option maxHeartbeats 4000000 in
theorem ok_m_partsOf {l : Launch} {D : va_G} {cy : Nat → ClassId} {ad sa : Nat → Nat} {A : Nat → Prop} {F : Nat} {a1 : Int32} {s0 : St} {ρ : Int64} {σ' : St} (h : m_partsOf F a1 s0 = some (ρ, σ')) : gMl l shM D cy ad sa A yX12_partsOf cX12_partsOf 5 (some .long) 1 [.ref (ad 0), .int a1] s0 ρ σ' := by
  refine gM_of (by decide) (Nat.le_of_ble_eq_true rfl) ?_
  intro p e s m args below meth c ls X G Y hr hlk hl
  have hl : lv_has ls 5 [(0, .ref (ad 0)), (1, .int a1)] := hl
  have b5 : ∀ n : Nat, ∀ (x1 : Int32) (x2 : Int64) (x4 : Int32) (s0 : St) (H : Heap) (locs : List Loc) (ls : Array Slot), m_partsOf_L5 F  n x1 x2 x4 s0 = some (ρ, σ') → gY shM D cy ad A s0 s H locs → lv_has ls 5 [(0, .ref (ad 0)), (1, .int x1), (2, .long x2), (4, .int x4)] → W p l e (grm 1) s m args below meth c H locs 0 0 (MQ below (va_Ql (fun (q : Int64) (_ : Unit) => q = ρ) (fun _ t => va_P D vwCl (gWl shM cy ad σ') t.heap) A) args s 0 0 A) (F0 m 5 ls []) := by
    intro n
    induction n with
    | zero => intro x1 x2 x4 s0 H locs ls h Y hl; exact (gnone h).elim
    | succ n hk5 =>
      have e : m_partsOf_L5 F  (n + 1) = m_partsOf_L5b F  (m_partsOf_L5 F  n) := rfl
      rw [e]; clear e
      generalize m_partsOf_L5 F  n = k5 at hk5 ⊢
      intro x1 x2 x4 s0 H locs ls h Y hl
      unfold m_partsOf_L5b at h
      refine lv_iload X.1 X.2.1 (dck_at da_X12_partsOf 4 rfl) (lv_at hl 3 rfl) ?_
      refine lv_iconst X.1 X.2.1 (dck_at da_X12_partsOf 5 rfl) ki_5 ?_
      refine lv_icmp_ge (tgt := 31) X.1 X.2.1 (dck_at da_X12_partsOf 6 rfl) rfl (fun c => ?_) (fun c => ?_)
      · have h := gI_pos h c
        refine lv_lload_n X.1 X.2.1 (dck_at da_X12_partsOf 20 rfl) rfl (lv_at hl 2 rfl) ?_
        exact gr_lretO X Y h hr hlk (dck_at da_X12_partsOf 21 rfl)
      · have h := gI_neg h c
        refine lv_lload_n X.1 X.2.1 (dck_at da_X12_partsOf 7 rfl) rfl (lv_at hl 2 rfl) ?_
        refine lv_aload_n X.1 X.2.1 (dck_at da_X12_partsOf 8 rfl) rfl (lv_at hl 0 rfl) ?_
        refine gr_getR X G Y fk_RX12_34 clM_0 rfl (dck_at da_X12_partsOf 9 rfl) ?_
        refine lv_iconst X.1 X.2.1 (dck_at da_X12_partsOf 10 rfl) ki_5 ?_
        refine lv_iload_n X.1 X.2.1 (dck_at da_X12_partsOf 11 rfl) rfl (lv_at hl 1 rfl) ?_
        refine lv_imul X.1 X.2.1 (dck_at da_X12_partsOf 12 rfl) ?_
        refine lv_iload X.1 X.2.1 (dck_at da_X12_partsOf 13 rfl) (lv_at hl 3 rfl) ?_
        refine lv_iadd X.1 X.2.1 (dck_at da_X12_partsOf 14 rfl) ?_
        obtain ⟨hin, h⟩ := gI_if h
        refine gr_lald X G Y clM_9 hin (dck_at da_X12_partsOf 15 rfl) ?_
        refine lv_ladd X.1 X.2.1 (dck_at da_X12_partsOf 16 rfl) ?_
        refine lv_lstore_n (lv' := [(2, .long (x2 + (s0.2 9 (((5 : Int32) * x1) + x4).toNatClampNeg))), (0, .ref (ad 0)), (1, .int x1), (4, .int x4)]) X.1 X.2.1 (dck_at da_X12_partsOf 17 rfl) rfl hl (by decide) rfl (fun ls hl => ?_)
        refine lv_iinc (v := x4 + (1 : Int32)) (lv' := [(4, .int (x4 + (1 : Int32))), (2, .long (x2 + (s0.2 9 (((5 : Int32) * x1) + x4).toNatClampNeg))), (0, .ref (ad 0)), (1, .int x1)]) X.1 X.2.1 (dck_at da_X12_partsOf 18 rfl) hl (k := 3) rfl (congrArg (HAdd.hAdd _) ki_1) (by decide) rfl (fun ls hl => ?_)
        refine lv_goto (tgt := 5) X.1 X.2.1 (dck_at da_X12_partsOf 19 rfl) rfl ?_
        exact hk5 x1 (x2 + (s0.2 9 (((5 : Int32) * x1) + x4).toNatClampNeg)) (x4 + (1 : Int32)) s0 _ _ _ h Y (lv_sub hl [2, 3, 1, 0] rfl)
  unfold m_partsOf at h
  refine lv_lconst (v := 0) X.1 X.2.1 (dck_at da_X12_partsOf 0 rfl) rfl ?_
  refine lv_lstore_n (lv' := [(2, .long (0 : Int64)), (0, .ref (ad 0)), (1, .int a1)]) X.1 X.2.1 (dck_at da_X12_partsOf 1 rfl) rfl hl (by decide) rfl (fun ls hl => ?_)
  refine lv_iconst X.1 X.2.1 (dck_at da_X12_partsOf 2 rfl) ki_0 ?_
  refine lv_istore (lv' := [(4, .int (0 : Int32)), (2, .long (0 : Int64)), (0, .ref (ad 0)), (1, .int a1)]) X.1 X.2.1 (dck_at da_X12_partsOf 3 rfl) hl (by decide) rfl (fun ls hl => ?_)
  exact b5 F a1 (0 : Int64) (0 : Int32) s0 _ _ _ h Y (lv_sub hl [2, 3, 1, 0] rfl)
set_option maxRecDepth 100000 in
set_option maxHeartbeats 4000000 in
theorem ok_m_parts {l : Launch} {D : va_G} {cy : Nat → ClassId} {ad sa : Nat → Nat} {A : Nat → Prop} {F : Nat} {a1 : Int32} {a2 : Int32} {s0 : St} {ρ : Int64} {σ' : St} (h : m_parts F a1 a2 s0 = some (ρ, σ')) : gMl l shM D cy ad sa A yX12_parts cX12_parts 3 (some .long) 3 [.ref (ad 0), .int a1, .int a2] s0 ρ σ' := by
  refine gM_of (by decide) (Nat.le_of_ble_eq_true rfl) ?_
  intro p e s m args below meth c ls X G Y hr hlk hl
  have hl : lv_has ls 3 [(0, .ref (ad 0)), (1, .int a1), (2, .int a2)] := hl
  have b19 : ∀  (s0 : St) (H : Heap) (locs : List Loc) (ls : Array Slot), m_parts_J19 F  s0 = some (ρ, σ') → gY shM D cy ad A s0 s H locs → lv_has ls 3 [(0, .ref (ad 0))] → W p l e (grm 3) s m args below meth c H locs 0 0 (MQ below (va_Ql (fun (q : Int64) (_ : Unit) => q = ρ) (fun _ t => va_P D vwCl (gWl shM cy ad σ') t.heap) A) args s 0 0 A) (F0 m 19 ls []) := by
    intro s0 H locs ls h Y hl
    unfold m_parts_J19 at h
    refine lv_aload_n X.1 X.2.1 (dck_at da_X12_parts 9 rfl) rfl (lv_at hl 0 rfl) ?_
    refine lv_ldc2 X.1 X.2.1 X.2.2.2.1 (X.2.2.2.2 _ wm_1295) (dck_at da_X12_parts 10 rfl) ?_
    obtain ⟨r1, s1, hc, h⟩ := gB2_some h
    refine gr_backl Y (gr_runV (as := [.long (-1 : Int64)]) (rest := []) X G Y (ok_m_says hc) cv_RX12_120 clM_0 ⟨Nat.le_of_ble_eq_true rfl, Nat.le_of_ble_eq_true rfl⟩ rfl hl.1 (Nat.le_of_ble_eq_true rfl) (dck_at da_X12_parts 11 rfl)) (fun H locs Y => ?_)
    exact gr_lretO X Y h hr hlk (dck_at da_X12_parts 12 rfl)
  unfold m_parts at h
  refine lv_iload_n X.1 X.2.1 (dck_at da_X12_parts 0 rfl) rfl (lv_at hl 1 rfl) ?_
  obtain ⟨r2, s2, hc, h⟩ := gB2_some h
  refine gr_backi Y (gr_runS (as := [.int a1]) (rest := []) X G Y (ok_m_isCell hc) cs_RX12_138 ⟨Nat.le_of_ble_eq_true rfl, Nat.le_of_ble_eq_true rfl⟩ rfl hl.1 (Nat.le_of_ble_eq_true rfl) (dck_at da_X12_parts 1 rfl)) (fun H locs Y => ?_)
  refine lv_if_eq (tgt := 19) X.1 X.2.1 (dck_at da_X12_parts 2 rfl) rfl (fun c => ?_) (fun c => ?_)
  · have h := gI_pos h c
    exact b19 s2 _ _ _ h Y (lv_sub hl [0] rfl)
  · have h := gI_neg h c
    refine lv_iload_n X.1 X.2.1 (dck_at da_X12_parts 3 rfl) rfl (lv_at hl 2 rfl) ?_
    refine lv_i2l (v := (a2).toInt64) X.1 X.2.1 (dck_at da_X12_parts 4 rfl) rfl ?_
    refine lv_lconst (v := 0) X.1 X.2.1 (dck_at da_X12_parts 5 rfl) rfl ?_
    refine lv_ldc2 X.1 X.2.1 X.2.2.2.1 (X.2.2.2.2 _ wm_1395) (dck_at da_X12_parts 6 rfl) ?_
    obtain ⟨r3, s3, hc, h⟩ := gB2_some h
    refine gr_backi Y (gr_runS (as := [.long ((a2).toInt64), .long (0 : Int64), .long (5 : Int64)]) (rest := []) X G Y (ok_m_in hc) cs_RX12_126 ⟨Nat.le_of_ble_eq_true rfl, Nat.le_of_ble_eq_true rfl⟩ rfl hl.1 (Nat.le_of_ble_eq_true rfl) (dck_at da_X12_parts 7 rfl)) (fun H locs Y => ?_)
    refine lv_if_ne (tgt := 27) X.1 X.2.1 (dck_at da_X12_parts 8 rfl) rfl (fun c => ?_) (fun c => ?_)
    · have h := gI_neg h c
      refine lv_iload_n X.1 X.2.1 (dck_at da_X12_parts 13 rfl) rfl (lv_at hl 2 rfl) ?_
      refine lv_iconst X.1 X.2.1 (dck_at da_X12_parts 14 rfl) ki_5 ?_
      refine lv_icmp_ge (tgt := 45) X.1 X.2.1 (dck_at da_X12_parts 15 rfl) rfl (fun c => ?_) (fun c => ?_)
      · have h := gI_pos h c
        refine lv_aload_n X.1 X.2.1 (dck_at da_X12_parts 25 rfl) rfl (lv_at hl 0 rfl) ?_
        refine lv_iload_n X.1 X.2.1 (dck_at da_X12_parts 26 rfl) rfl (lv_at hl 1 rfl) ?_
        obtain ⟨r4, s4, hc, h⟩ := gB2_some h
        refine gr_backl Y (gr_runV (as := [.int a1]) (rest := []) X G Y (ok_m_partsOf hc) cv_RX12_214 clM_0 ⟨Nat.le_of_ble_eq_true rfl, Nat.le_of_ble_eq_true rfl⟩ rfl hl.1 (Nat.le_of_ble_eq_true rfl) (dck_at da_X12_parts 27 rfl)) (fun H locs Y => ?_)
        exact gr_lretO X Y h hr hlk (dck_at da_X12_parts 28 rfl)
      · have h := gI_neg h c
        refine lv_aload_n X.1 X.2.1 (dck_at da_X12_parts 16 rfl) rfl (lv_at hl 0 rfl) ?_
        refine gr_getR X G Y fk_RX12_34 clM_0 rfl (dck_at da_X12_parts 17 rfl) ?_
        refine lv_iconst X.1 X.2.1 (dck_at da_X12_parts 18 rfl) ki_5 ?_
        refine lv_iload_n X.1 X.2.1 (dck_at da_X12_parts 19 rfl) rfl (lv_at hl 1 rfl) ?_
        refine lv_imul X.1 X.2.1 (dck_at da_X12_parts 20 rfl) ?_
        refine lv_iload_n X.1 X.2.1 (dck_at da_X12_parts 21 rfl) rfl (lv_at hl 2 rfl) ?_
        refine lv_iadd X.1 X.2.1 (dck_at da_X12_parts 22 rfl) ?_
        obtain ⟨hin, h⟩ := gI_if h
        refine gr_lald X G Y clM_9 hin (dck_at da_X12_parts 23 rfl) ?_
        refine lv_goto (tgt := 50) X.1 X.2.1 (dck_at da_X12_parts 24 rfl) rfl ?_
        exact gr_lretO X Y h hr hlk (dck_at da_X12_parts 28 rfl)
    · have h := gI_pos h c
      exact b19 s3 _ _ _ h Y (lv_sub hl [0] rfl)
set_option maxRecDepth 100000 in
set_option maxHeartbeats 4000000 in
theorem ok_m_all {l : Launch} {D : va_G} {cy : Nat → ClassId} {ad sa : Nat → Nat} {A : Nat → Prop} {F : Nat}  {s0 : St} {ρ : Int64} {σ' : St} (h : m_all F s0 = some (ρ, σ')) : gMl l shM D cy ad sa A yX12_all cX12_all 4 (some .long) 1 [.ref (ad 0)] s0 ρ σ' := by
  refine gM_of (by decide) (Nat.le_of_ble_eq_true rfl) ?_
  intro p e s m args below meth c ls X G Y hr hlk hl
  have hl : lv_has ls 4 [(0, .ref (ad 0))] := hl
  have b4 : ∀ n : Nat, ∀ (x1 : Int64) (x3 : Int32) (s0 : St) (H : Heap) (locs : List Loc) (ls : Array Slot), m_all_L4 F  n x1 x3 s0 = some (ρ, σ') → gY shM D cy ad A s0 s H locs → lv_has ls 4 [(0, .ref (ad 0)), (1, .long x1), (3, .int x3)] → W p l e (grm 1) s m args below meth c H locs 0 0 (MQ below (va_Ql (fun (q : Int64) (_ : Unit) => q = ρ) (fun _ t => va_P D vwCl (gWl shM cy ad σ') t.heap) A) args s 0 0 A) (F0 m 4 ls []) := by
    intro n
    induction n with
    | zero => intro x1 x3 s0 H locs ls h Y hl; exact (gnone h).elim
    | succ n hk4 =>
      have e : m_all_L4 F  (n + 1) = m_all_L4b F  (m_all_L4 F  n) := rfl
      rw [e]; clear e
      generalize m_all_L4 F  n = k4 at hk4 ⊢
      intro x1 x3 s0 H locs ls h Y hl
      unfold m_all_L4b at h
      refine lv_iload_n X.1 X.2.1 (dck_at da_X12_all 4 rfl) rfl (lv_at hl 2 rfl) ?_
      refine lv_sipush X.1 X.2.1 (dck_at da_X12_all 5 rfl) ks_720 ?_
      refine lv_icmp_ge (tgt := 26) X.1 X.2.1 (dck_at da_X12_all 6 rfl) rfl (fun c => ?_) (fun c => ?_)
      · have h := gI_pos h c
        refine lv_lload_n X.1 X.2.1 (dck_at da_X12_all 16 rfl) rfl (lv_at hl 1 rfl) ?_
        exact gr_lretO X Y h hr hlk (dck_at da_X12_all 17 rfl)
      · have h := gI_neg h c
        refine lv_lload_n X.1 X.2.1 (dck_at da_X12_all 7 rfl) rfl (lv_at hl 1 rfl) ?_
        refine lv_aload_n X.1 X.2.1 (dck_at da_X12_all 8 rfl) rfl (lv_at hl 0 rfl) ?_
        refine gr_getR X G Y fk_RX12_34 clM_0 rfl (dck_at da_X12_all 9 rfl) ?_
        refine lv_iload_n X.1 X.2.1 (dck_at da_X12_all 10 rfl) rfl (lv_at hl 2 rfl) ?_
        obtain ⟨hin, h⟩ := gI_if h
        refine gr_lald X G Y clM_9 hin (dck_at da_X12_all 11 rfl) ?_
        refine lv_ladd X.1 X.2.1 (dck_at da_X12_all 12 rfl) ?_
        refine lv_lstore_n (lv' := [(1, .long (x1 + (s0.2 9 (x3).toNatClampNeg))), (0, .ref (ad 0)), (3, .int x3)]) X.1 X.2.1 (dck_at da_X12_all 13 rfl) rfl hl (by decide) rfl (fun ls hl => ?_)
        refine lv_iinc (v := x3 + (1 : Int32)) (lv' := [(3, .int (x3 + (1 : Int32))), (1, .long (x1 + (s0.2 9 (x3).toNatClampNeg))), (0, .ref (ad 0))]) X.1 X.2.1 (dck_at da_X12_all 14 rfl) hl (k := 2) rfl (congrArg (HAdd.hAdd _) ki_1) (by decide) rfl (fun ls hl => ?_)
        refine lv_goto (tgt := 4) X.1 X.2.1 (dck_at da_X12_all 15 rfl) rfl ?_
        exact hk4 (x1 + (s0.2 9 (x3).toNatClampNeg)) (x3 + (1 : Int32)) s0 _ _ _ h Y (lv_sub hl [2, 1, 0] rfl)
  unfold m_all at h
  refine lv_lconst (v := 0) X.1 X.2.1 (dck_at da_X12_all 0 rfl) rfl ?_
  refine lv_lstore_n (lv' := [(1, .long (0 : Int64)), (0, .ref (ad 0))]) X.1 X.2.1 (dck_at da_X12_all 1 rfl) rfl hl (by decide) rfl (fun ls hl => ?_)
  refine lv_iconst X.1 X.2.1 (dck_at da_X12_all 2 rfl) ki_0 ?_
  refine lv_istore_n (lv' := [(3, .int (0 : Int32)), (1, .long (0 : Int64)), (0, .ref (ad 0))]) X.1 X.2.1 (dck_at da_X12_all 3 rfl) rfl hl (by decide) rfl (fun ls hl => ?_)
  exact b4 F (0 : Int64) (0 : Int32) s0 _ _ _ h Y (lv_sub hl [2, 1, 0] rfl)
set_option maxRecDepth 100000 in
set_option maxHeartbeats 4000000 in
theorem ok_m_lowest {l : Launch} {D : va_G} {cy : Nat → ClassId} {ad sa : Nat → Nat} {A : Nat → Prop} {F : Nat} {a0 : Int64} {a2 : Int64} {a4 : Int32} {s0 : St} {ρ : Int64} {σ' : St} (h : m_lowest F a0 a2 a4 s0 = some (ρ, σ')) : gMl l shM D cy ad sa A yX12_lowest cX12_lowest 11 (some .long) 1 [.long a0, .long a2, .int a4] s0 ρ σ' := by
  refine gM_of (by decide) (Nat.le_of_ble_eq_true rfl) ?_
  intro p e s m args below meth c ls X G Y hr hlk hl
  have hl : lv_has ls 11 [(0, .long a0), (2, .long a2), (4, .int a4)] := hl
  have b6 : ∀ n : Nat, ∀ (x0 : Int64) (x2 : Int64) (x4 : Int32) (x5 : Int64) (x7 : Int64) (s0 : St) (H : Heap) (locs : List Loc) (ls : Array Slot), m_lowest_L6 F  n x0 x2 x4 x5 x7 s0 = some (ρ, σ') → gY shM D cy ad A s0 s H locs → lv_has ls 11 [(0, .long x0), (2, .long x2), (4, .int x4), (5, .long x5), (7, .long x7)] → W p l e (grm 1) s m args below meth c H locs 0 0 (MQ below (va_Ql (fun (q : Int64) (_ : Unit) => q = ρ) (fun _ t => va_P D vwCl (gWl shM cy ad σ') t.heap) A) args s 0 0 A) (F0 m 6 ls []) := by
    intro n
    induction n with
    | zero => intro x0 x2 x4 x5 x7 s0 H locs ls h Y hl; exact (gnone h).elim
    | succ n hk6 =>
      have e : m_lowest_L6 F  (n + 1) = m_lowest_L6b F  (m_lowest_L6 F  n) := rfl
      rw [e]; clear e
      generalize m_lowest_L6 F  n = k6 at hk6 ⊢
      intro x0 x2 x4 x5 x7 s0 H locs ls h Y hl
      unfold m_lowest_L6b at h
      refine lv_lload X.1 X.2.1 (dck_at da_X12_lowest 4 rfl) (lv_at hl 4 rfl) ?_
      refine lv_lconst (v := 0) X.1 X.2.1 (dck_at da_X12_lowest 5 rfl) rfl ?_
      refine W.lcmp X.1 X.2.1 (dck_at da_X12_lowest 6 rfl) ?_
      refine lv_if_eq (tgt := 31) X.1 X.2.1 (dck_at da_X12_lowest 7 rfl) rfl (fun c => ?_) (fun c => ?_)
      · have h := gI_pos h c
        refine lv_iload X.1 X.2.1 (dck_at da_X12_lowest 17 rfl) (lv_at hl 2 rfl) ?_
        refine lv_if_ne (tgt := 43) X.1 X.2.1 (dck_at da_X12_lowest 18 rfl) rfl (fun c => ?_) (fun c => ?_)
        · have h := gI_neg h c
          refine lv_lload_n X.1 X.2.1 (dck_at da_X12_lowest 23 rfl) rfl (lv_at hl 1 rfl) ?_
          refine lv_lload X.1 X.2.1 (dck_at da_X12_lowest 24 rfl) (lv_at hl 3 rfl) ?_
          obtain ⟨hz, h⟩ := gI_nz h
          refine lv_ldiv X.1 X.2.1 (dck_at da_X12_lowest 25 rfl) hz ?_
          exact gr_lretO X Y h hr hlk (dck_at da_X12_lowest 26 rfl)
        · have h := gI_pos h c
          refine lv_lload_n X.1 X.2.1 (dck_at da_X12_lowest 19 rfl) rfl (lv_at hl 0 rfl) ?_
          refine lv_lload X.1 X.2.1 (dck_at da_X12_lowest 20 rfl) (lv_at hl 3 rfl) ?_
          obtain ⟨hz, h⟩ := gI_nz h
          refine lv_ldiv X.1 X.2.1 (dck_at da_X12_lowest 21 rfl) hz ?_
          refine lv_goto (tgt := 47) X.1 X.2.1 (dck_at da_X12_lowest 22 rfl) rfl ?_
          exact gr_lretO X Y h hr hlk (dck_at da_X12_lowest 26 rfl)
      · have h := gI_neg h c
        refine lv_lload X.1 X.2.1 (dck_at da_X12_lowest 8 rfl) (lv_at hl 3 rfl) ?_
        refine lv_lload X.1 X.2.1 (dck_at da_X12_lowest 9 rfl) (lv_at hl 4 rfl) ?_
        obtain ⟨hz, h⟩ := gI_nz h
        refine lv_lrem X.1 X.2.1 (dck_at da_X12_lowest 10 rfl) hz ?_
        refine lv_lstore (lv' := [(9, .long (x5 - x5 / x7 * x7)), (0, .long x0), (2, .long x2), (4, .int x4), (5, .long x5), (7, .long x7)]) X.1 X.2.1 (dck_at da_X12_lowest 11 rfl) hl (by decide) rfl (fun ls hl => ?_)
        refine lv_lload X.1 X.2.1 (dck_at da_X12_lowest 12 rfl) (lv_at hl 5 rfl) ?_
        refine lv_lstore (lv' := [(5, .long x7), (9, .long (x5 - x5 / x7 * x7)), (0, .long x0), (2, .long x2), (4, .int x4), (7, .long x7)]) X.1 X.2.1 (dck_at da_X12_lowest 13 rfl) hl (by decide) rfl (fun ls hl => ?_)
        refine lv_lload X.1 X.2.1 (dck_at da_X12_lowest 14 rfl) (lv_at hl 1 rfl) ?_
        refine lv_lstore (lv' := [(7, .long (x5 - x5 / x7 * x7)), (5, .long x7), (9, .long (x5 - x5 / x7 * x7)), (0, .long x0), (2, .long x2), (4, .int x4)]) X.1 X.2.1 (dck_at da_X12_lowest 15 rfl) hl (by decide) rfl (fun ls hl => ?_)
        refine lv_goto (tgt := 6) X.1 X.2.1 (dck_at da_X12_lowest 16 rfl) rfl ?_
        exact hk6 x0 x2 x4 x7 (x5 - x5 / x7 * x7) s0 _ _ _ h Y (lv_sub hl [3, 4, 5, 1, 0] rfl)
  unfold m_lowest at h
  refine lv_lload_n X.1 X.2.1 (dck_at da_X12_lowest 0 rfl) rfl (lv_at hl 0 rfl) ?_
  refine lv_lstore (lv' := [(5, .long a0), (0, .long a0), (2, .long a2), (4, .int a4)]) X.1 X.2.1 (dck_at da_X12_lowest 1 rfl) hl (by decide) rfl (fun ls hl => ?_)
  refine lv_lload_n X.1 X.2.1 (dck_at da_X12_lowest 2 rfl) rfl (lv_at hl 2 rfl) ?_
  refine lv_lstore (lv' := [(7, .long a2), (5, .long a0), (0, .long a0), (2, .long a2), (4, .int a4)]) X.1 X.2.1 (dck_at da_X12_lowest 3 rfl) hl (by decide) rfl (fun ls hl => ?_)
  exact b6 F a0 a2 a4 a0 a2 s0 _ _ _ h Y (lv_sub hl [2, 3, 4, 1, 0] rfl)
set_option maxRecDepth 100000 in
set_option maxHeartbeats 4000000 in
theorem ok_m_odds {l : Launch} {D : va_G} {cy : Nat → ClassId} {ad sa : Nat → Nat} {A : Nat → Prop} {F : Nat} {a1 : Int32} {a2 : Int32} {s0 : St} {ρ : Int64} {σ' : St} (h : m_odds F a1 a2 s0 = some (ρ, σ')) : gMl l shM D cy ad sa A yX12_odds cX12_odds 3 (some .long) 3 [.ref (ad 0), .int a1, .int a2] s0 ρ σ' := by
  refine gM_of (by decide) (Nat.le_of_ble_eq_true rfl) ?_
  intro p e s m args below meth c ls X G Y hr hlk hl
  have hl : lv_has ls 3 [(0, .ref (ad 0)), (1, .int a1), (2, .int a2)] := hl
  have b17 : ∀  (s0 : St) (H : Heap) (locs : List Loc) (ls : Array Slot), m_odds_J17 F  s0 = some (ρ, σ') → gY shM D cy ad A s0 s H locs → lv_has ls 3 [(0, .ref (ad 0))] → W p l e (grm 3) s m args below meth c H locs 0 0 (MQ below (va_Ql (fun (q : Int64) (_ : Unit) => q = ρ) (fun _ t => va_P D vwCl (gWl shM cy ad σ') t.heap) A) args s 0 0 A) (F0 m 17 ls []) := by
    intro s0 H locs ls h Y hl
    unfold m_odds_J17 at h
    refine lv_aload_n X.1 X.2.1 (dck_at da_X12_odds 9 rfl) rfl (lv_at hl 0 rfl) ?_
    refine lv_ldc2 X.1 X.2.1 X.2.2.2.1 (X.2.2.2.2 _ wm_1295) (dck_at da_X12_odds 10 rfl) ?_
    obtain ⟨r1, s1, hc, h⟩ := gB2_some h
    refine gr_backl Y (gr_runV (as := [.long (-1 : Int64)]) (rest := []) X G Y (ok_m_says hc) cv_RX12_120 clM_0 ⟨Nat.le_of_ble_eq_true rfl, Nat.le_of_ble_eq_true rfl⟩ rfl hl.1 (Nat.le_of_ble_eq_true rfl) (dck_at da_X12_odds 11 rfl)) (fun H locs Y => ?_)
    exact gr_lretO X Y h hr hlk (dck_at da_X12_odds 12 rfl)
  unfold m_odds at h
  refine lv_iload_n X.1 X.2.1 (dck_at da_X12_odds 0 rfl) rfl (lv_at hl 1 rfl) ?_
  obtain ⟨r2, s2, hc, h⟩ := gB2_some h
  refine gr_backi Y (gr_runS (as := [.int a1]) (rest := []) X G Y (ok_m_isCell hc) cs_RX12_138 ⟨Nat.le_of_ble_eq_true rfl, Nat.le_of_ble_eq_true rfl⟩ rfl hl.1 (Nat.le_of_ble_eq_true rfl) (dck_at da_X12_odds 1 rfl)) (fun H locs Y => ?_)
  refine lv_if_eq (tgt := 17) X.1 X.2.1 (dck_at da_X12_odds 2 rfl) rfl (fun c => ?_) (fun c => ?_)
  · have h := gI_pos h c
    exact b17 s2 _ _ _ h Y (lv_sub hl [0] rfl)
  · have h := gI_neg h c
    refine lv_iload_n X.1 X.2.1 (dck_at da_X12_odds 3 rfl) rfl (lv_at hl 2 rfl) ?_
    refine lv_i2l (v := (a2).toInt64) X.1 X.2.1 (dck_at da_X12_odds 4 rfl) rfl ?_
    refine lv_lconst (v := 0) X.1 X.2.1 (dck_at da_X12_odds 5 rfl) rfl ?_
    refine lv_lconst (v := 1) X.1 X.2.1 (dck_at da_X12_odds 6 rfl) rfl ?_
    obtain ⟨r3, s3, hc, h⟩ := gB2_some h
    refine gr_backi Y (gr_runS (as := [.long ((a2).toInt64), .long (0 : Int64), .long (1 : Int64)]) (rest := []) X G Y (ok_m_in hc) cs_RX12_126 ⟨Nat.le_of_ble_eq_true rfl, Nat.le_of_ble_eq_true rfl⟩ rfl hl.1 (Nat.le_of_ble_eq_true rfl) (dck_at da_X12_odds 7 rfl)) (fun H locs Y => ?_)
    refine lv_if_ne (tgt := 25) X.1 X.2.1 (dck_at da_X12_odds 8 rfl) rfl (fun c => ?_) (fun c => ?_)
    · have h := gI_neg h c
      refine lv_aload_n X.1 X.2.1 (dck_at da_X12_odds 13 rfl) rfl (lv_at hl 0 rfl) ?_
      obtain ⟨r4, s4, hc, h⟩ := gB2_some h
      refine gr_backl Y (gr_runV (as := []) (rest := []) X G Y (ok_m_all hc) cv_RX12_218 clM_0 ⟨Nat.le_of_ble_eq_true rfl, Nat.le_of_ble_eq_true rfl⟩ rfl hl.1 (Nat.le_of_ble_eq_true rfl) (dck_at da_X12_odds 14 rfl)) (fun H locs Y => ?_)
      refine lv_lconst (v := 0) X.1 X.2.1 (dck_at da_X12_odds 15 rfl) rfl ?_
      refine W.lcmp X.1 X.2.1 (dck_at da_X12_odds 16 rfl) ?_
      refine lv_if_ne (tgt := 44) X.1 X.2.1 (dck_at da_X12_odds 17 rfl) rfl (fun c => ?_) (fun c => ?_)
      · have h := gI_neg h c
        refine lv_aload_n X.1 X.2.1 (dck_at da_X12_odds 22 rfl) rfl (lv_at hl 0 rfl) ?_
        refine lv_iload_n X.1 X.2.1 (dck_at da_X12_odds 23 rfl) rfl (lv_at hl 1 rfl) ?_
        obtain ⟨r5, s5, hc, h⟩ := gB2_some h
        refine gr_backl Y (gr_runV (as := [.int a1]) (rest := []) X G Y (ok_m_partsOf hc) cv_RX12_214 clM_0 ⟨Nat.le_of_ble_eq_true rfl, Nat.le_of_ble_eq_true rfl⟩ rfl hl.1 (Nat.le_of_ble_eq_true rfl) (dck_at da_X12_odds 24 rfl)) (fun H locs Y => ?_)
        refine lv_aload_n X.1 X.2.1 (dck_at da_X12_odds 25 rfl) rfl (lv_at hl 0 rfl) ?_
        obtain ⟨r6, s6, hc, h⟩ := gB2_some h
        refine gr_backl Y (gr_runV (as := []) (rest := [.long r5]) X G Y (ok_m_all hc) cv_RX12_218 clM_0 ⟨Nat.le_of_ble_eq_true rfl, Nat.le_of_ble_eq_true rfl⟩ rfl hl.1 (Nat.le_of_ble_eq_true rfl) (dck_at da_X12_odds 26 rfl)) (fun H locs Y => ?_)
        refine lv_iload_n X.1 X.2.1 (dck_at da_X12_odds 27 rfl) rfl (lv_at hl 2 rfl) ?_
        obtain ⟨r7, s7, hc, h⟩ := gB2_some h
        refine gr_backl Y (gr_runS (as := [.long r5, .long r6, .int a2]) (rest := []) X G Y (ok_m_lowest hc) cs_RX12_224 ⟨Nat.le_of_ble_eq_true rfl, Nat.le_of_ble_eq_true rfl⟩ rfl hl.1 (Nat.le_of_ble_eq_true rfl) (dck_at da_X12_odds 28 rfl)) (fun H locs Y => ?_)
        exact gr_lretO X Y h hr hlk (dck_at da_X12_odds 29 rfl)
      · have h := gI_pos h c
        refine lv_aload_n X.1 X.2.1 (dck_at da_X12_odds 18 rfl) rfl (lv_at hl 0 rfl) ?_
        refine lv_ldc2 X.1 X.2.1 X.2.2.2.1 (X.2.2.2.2 _ wm_1408) (dck_at da_X12_odds 19 rfl) ?_
        obtain ⟨r8, s8, hc, h⟩ := gB2_some h
        refine gr_backl Y (gr_runV (as := [.long (-4 : Int64)]) (rest := []) X G Y (ok_m_says hc) cv_RX12_120 clM_0 ⟨Nat.le_of_ble_eq_true rfl, Nat.le_of_ble_eq_true rfl⟩ rfl hl.1 (Nat.le_of_ble_eq_true rfl) (dck_at da_X12_odds 20 rfl)) (fun H locs Y => ?_)
        refine lv_goto (tgt := 57) X.1 X.2.1 (dck_at da_X12_odds 21 rfl) rfl ?_
        exact gr_lretO X Y h hr hlk (dck_at da_X12_odds 29 rfl)
    · have h := gI_pos h c
      exact b17 s3 _ _ _ h Y (lv_sub hl [0] rfl)
set_option maxRecDepth 100000 in
set_option maxHeartbeats 4000000 in
theorem ok_m_where {l : Launch} {D : va_G} {cy : Nat → ClassId} {ad sa : Nat → Nat} {A : Nat → Prop} {F : Nat} {a1 : Int32} {s0 : St} {ρ : Int32} {σ' : St} (h : m_where F a1 s0 = some (ρ, σ')) : gMi l shM D cy ad sa A yX12_where cX12_where 8 (some .int) 3 [.ref (ad 0), .int a1] s0 ρ σ' := by
  refine gM_of (by decide) (Nat.le_of_ble_eq_true rfl) ?_
  intro p e s m args below meth c ls X G Y hr hlk hl
  have hl : lv_has ls 8 [(0, .ref (ad 0)), (1, .int a1)] := hl
  have b24 : ∀ n : Nat, ∀ (x1 : Int32) (x2 : Int32) (x3 : Int64) (x5 : Int32) (s0 : St) (H : Heap) (locs : List Loc) (ls : Array Slot), m_where_L24 F  n x1 x2 x3 x5 s0 = some (ρ, σ') → gY shM D cy ad A s0 s H locs → lv_has ls 8 [(0, .ref (ad 0)), (1, .int x1), (2, .int x2), (3, .long x3), (5, .int x5)] → W p l e (grm 3) s m args below meth c H locs 0 0 (MQ below (va_Qi (fun (q : Int32) (_ : Unit) => q = ρ) (fun _ t => va_P D vwCl (gWl shM cy ad σ') t.heap) A) args s 0 0 A) (F0 m 24 ls []) := by
    intro n
    induction n with
    | zero => intro x1 x2 x3 x5 s0 H locs ls h Y hl; exact (gnone h).elim
    | succ n hk24 =>
      have e : m_where_L24 F  (n + 1) = m_where_L24b F  (m_where_L24 F  n) := rfl
      rw [e]; clear e
      generalize m_where_L24 F  n = k24 at hk24 ⊢
      have b85 : ∀ (x1 : Int32) (x2 : Int32) (x5 : Int32) (y0 : Int64) (s0 : St) (H : Heap) (locs : List Loc) (ls : Array Slot), m_where_J85 F k24 x1 x2 x5 y0 s0 = some (ρ, σ') → gY shM D cy ad A s0 s H locs → lv_has ls 8 [(0, .ref (ad 0)), (1, .int x1), (2, .int x2), (5, .int x5)] → W p l e (grm 3) s m args below meth c H locs 0 0 (MQ below (va_Qi (fun (q : Int32) (_ : Unit) => q = ρ) (fun _ t => va_P D vwCl (gWl shM cy ad σ') t.heap) A) args s 0 0 A) (F0 m 85 ls [.long y0]) := by
        intro x1 x2 x5 y0 s0 H locs ls h Y hl
        unfold m_where_J85 at h
        refine lv_lstore_n (lv' := [(3, .long y0), (0, .ref (ad 0)), (1, .int x1), (2, .int x2), (5, .int x5)]) X.1 X.2.1 (dck_at da_X12_where 49 rfl) rfl hl (by decide) rfl (fun ls hl => ?_)
        refine lv_iinc (v := x5 + (1 : Int32)) (lv' := [(5, .int (x5 + (1 : Int32))), (3, .long y0), (0, .ref (ad 0)), (1, .int x1), (2, .int x2)]) X.1 X.2.1 (dck_at da_X12_where 50 rfl) hl (k := 4) rfl (congrArg (HAdd.hAdd _) ki_1) (by decide) rfl (fun ls hl => ?_)
        refine lv_goto (tgt := 24) X.1 X.2.1 (dck_at da_X12_where 51 rfl) rfl ?_
        exact hk24 x1 x2 y0 (x5 + (1 : Int32)) s0 _ _ _ h Y (lv_sub hl [2, 3, 4, 1, 0] rfl)
      have b71 : ∀ (x1 : Int32) (x3 : Int64) (x5 : Int32) (x6 : Int64) (y0 : Int32) (s0 : St) (H : Heap) (locs : List Loc) (ls : Array Slot), m_where_J71 F k24 x1 x3 x5 x6 y0 s0 = some (ρ, σ') → gY shM D cy ad A s0 s H locs → lv_has ls 8 [(0, .ref (ad 0)), (1, .int x1), (3, .long x3), (5, .int x5), (6, .long x6)] → W p l e (grm 3) s m args below meth c H locs 0 0 (MQ below (va_Qi (fun (q : Int32) (_ : Unit) => q = ρ) (fun _ t => va_P D vwCl (gWl shM cy ad σ') t.heap) A) args s 0 0 A) (F0 m 71 ls [.int y0]) := by
        intro x1 x3 x5 x6 y0 s0 H locs ls h Y hl
        unfold m_where_J71 at h
        refine lv_istore_n (lv' := [(2, .int y0), (0, .ref (ad 0)), (1, .int x1), (3, .long x3), (5, .int x5), (6, .long x6)]) X.1 X.2.1 (dck_at da_X12_where 41 rfl) rfl hl (by decide) rfl (fun ls hl => ?_)
        refine lv_lload X.1 X.2.1 (dck_at da_X12_where 42 rfl) (lv_at hl 5 rfl) ?_
        refine lv_lload_n X.1 X.2.1 (dck_at da_X12_where 43 rfl) rfl (lv_at hl 3 rfl) ?_
        refine W.lcmp X.1 X.2.1 (dck_at da_X12_where 44 rfl) ?_
        refine lv_if_le (tgt := 84) X.1 X.2.1 (dck_at da_X12_where 45 rfl) rfl (fun c => ?_) (fun c => ?_)
        · have h := gI_pos h c
          refine lv_lload_n X.1 X.2.1 (dck_at da_X12_where 48 rfl) rfl (lv_at hl 3 rfl) ?_
          exact b85 x1 y0 x5 x3 s0 _ _ _ h Y (lv_sub hl [1, 2, 0, 4] rfl)
        · have h := gI_neg h c
          refine lv_lload X.1 X.2.1 (dck_at da_X12_where 46 rfl) (lv_at hl 5 rfl) ?_
          refine lv_goto (tgt := 85) X.1 X.2.1 (dck_at da_X12_where 47 rfl) rfl ?_
          exact b85 x1 y0 x5 x6 s0 _ _ _ h Y (lv_sub hl [1, 2, 0, 4] rfl)
      have b56 : ∀ (x1 : Int32) (x2 : Int32) (x3 : Int64) (x5 : Int32) (y0 : Int64) (s0 : St) (H : Heap) (locs : List Loc) (ls : Array Slot), m_where_J56 F k24 x1 x2 x3 x5 y0 s0 = some (ρ, σ') → gY shM D cy ad A s0 s H locs → lv_has ls 8 [(0, .ref (ad 0)), (1, .int x1), (2, .int x2), (3, .long x3), (5, .int x5)] → W p l e (grm 3) s m args below meth c H locs 0 0 (MQ below (va_Qi (fun (q : Int32) (_ : Unit) => q = ρ) (fun _ t => va_P D vwCl (gWl shM cy ad σ') t.heap) A) args s 0 0 A) (F0 m 56 ls [.long y0]) := by
        intro x1 x2 x3 x5 y0 s0 H locs ls h Y hl
        unfold m_where_J56 at h
        refine lv_lstore (lv' := [(6, .long y0), (0, .ref (ad 0)), (1, .int x1), (2, .int x2), (3, .long x3), (5, .int x5)]) X.1 X.2.1 (dck_at da_X12_where 33 rfl) hl (by decide) rfl (fun ls hl => ?_)
        refine lv_lload X.1 X.2.1 (dck_at da_X12_where 34 rfl) (lv_at hl 0 rfl) ?_
        refine lv_lload_n X.1 X.2.1 (dck_at da_X12_where 35 rfl) rfl (lv_at hl 4 rfl) ?_
        refine W.lcmp X.1 X.2.1 (dck_at da_X12_where 36 rfl) ?_
        refine lv_if_le (tgt := 70) X.1 X.2.1 (dck_at da_X12_where 37 rfl) rfl (fun c => ?_) (fun c => ?_)
        · have h := gI_pos h c
          refine lv_iload_n X.1 X.2.1 (dck_at da_X12_where 40 rfl) rfl (lv_at hl 3 rfl) ?_
          exact b71 x1 x3 x5 y0 x2 s0 _ _ _ h Y (lv_sub hl [1, 2, 4, 5, 0] rfl)
        · have h := gI_neg h c
          refine lv_iload X.1 X.2.1 (dck_at da_X12_where 38 rfl) (lv_at hl 5 rfl) ?_
          refine lv_goto (tgt := 71) X.1 X.2.1 (dck_at da_X12_where 39 rfl) rfl ?_
          exact b71 x1 x3 x5 y0 x5 s0 _ _ _ h Y (lv_sub hl [1, 2, 4, 5, 0] rfl)
      intro x1 x2 x3 x5 s0 H locs ls h Y hl
      unfold m_where_L24b at h
      refine lv_iload X.1 X.2.1 (dck_at da_X12_where 16 rfl) (lv_at hl 4 rfl) ?_
      refine lv_sipush X.1 X.2.1 (dck_at da_X12_where 17 rfl) ks_144 ?_
      refine lv_icmp_ge (tgt := 92) X.1 X.2.1 (dck_at da_X12_where 18 rfl) rfl (fun c => ?_) (fun c => ?_)
      · have h := gI_pos h c
        refine lv_aload_n X.1 X.2.1 (dck_at da_X12_where 52 rfl) rfl (lv_at hl 0 rfl) ?_
        refine lv_iload_n X.1 X.2.1 (dck_at da_X12_where 53 rfl) rfl (lv_at hl 2 rfl) ?_
        obtain ⟨r1, s1, hc, h⟩ := gB2_some h
        refine gr_backi Y (gr_runV (as := [.int x2]) (rest := []) X G Y (ok_m_tells hc) cv_RX12_130 clM_0 ⟨Nat.le_of_ble_eq_true rfl, Nat.le_of_ble_eq_true rfl⟩ rfl hl.1 (Nat.le_of_ble_eq_true rfl) (dck_at da_X12_where 54 rfl)) (fun H locs Y => ?_)
        exact gr_iretO X Y h hr rfl hlk (dck_at da_X12_where 55 rfl)
      · have h := gI_neg h c
        refine lv_iload_n X.1 X.2.1 (dck_at da_X12_where 19 rfl) rfl (lv_at hl 1 rfl) ?_
        refine lv_if_ne (tgt := 45) X.1 X.2.1 (dck_at da_X12_where 20 rfl) rfl (fun c => ?_) (fun c => ?_)
        · have h := gI_neg h c
          refine lv_aload_n X.1 X.2.1 (dck_at da_X12_where 25 rfl) rfl (lv_at hl 0 rfl) ?_
          refine gr_getR X G Y fk_RX12_34 clM_0 rfl (dck_at da_X12_where 26 rfl) ?_
          refine lv_iconst X.1 X.2.1 (dck_at da_X12_where 27 rfl) ki_5 ?_
          refine lv_iload X.1 X.2.1 (dck_at da_X12_where 28 rfl) (lv_at hl 4 rfl) ?_
          refine lv_imul X.1 X.2.1 (dck_at da_X12_where 29 rfl) ?_
          refine lv_iconst X.1 X.2.1 (dck_at da_X12_where 30 rfl) ki_4 ?_
          refine lv_iadd X.1 X.2.1 (dck_at da_X12_where 31 rfl) ?_
          obtain ⟨hin, h⟩ := gI_if h
          refine gr_lald X G Y clM_9 hin (dck_at da_X12_where 32 rfl) ?_
          exact b56 x1 x2 x3 x5 (s0.2 9 (((5 : Int32) * x5) + (4 : Int32)).toNatClampNeg) s0 _ _ _ h Y (lv_sub hl [0, 1, 2, 3, 4] rfl)
        · have h := gI_pos h c
          refine lv_aload_n X.1 X.2.1 (dck_at da_X12_where 21 rfl) rfl (lv_at hl 0 rfl) ?_
          refine lv_iload X.1 X.2.1 (dck_at da_X12_where 22 rfl) (lv_at hl 4 rfl) ?_
          obtain ⟨r2, s2, hc, h⟩ := gB2_some h
          refine gr_backl Y (gr_runV (as := [.int x5]) (rest := []) X G Y (ok_m_partsOf hc) cv_RX12_214 clM_0 ⟨Nat.le_of_ble_eq_true rfl, Nat.le_of_ble_eq_true rfl⟩ rfl hl.1 (Nat.le_of_ble_eq_true rfl) (dck_at da_X12_where 23 rfl)) (fun H locs Y => ?_)
          refine lv_goto (tgt := 56) X.1 X.2.1 (dck_at da_X12_where 24 rfl) rfl ?_
          exact b56 x1 x2 x3 x5 r2 s2 _ _ _ h Y (lv_sub hl [0, 1, 2, 3, 4] rfl)
  unfold m_where at h
  refine lv_iload_n X.1 X.2.1 (dck_at da_X12_where 0 rfl) rfl (lv_at hl 1 rfl) ?_
  refine lv_i2l (v := (a1).toInt64) X.1 X.2.1 (dck_at da_X12_where 1 rfl) rfl ?_
  refine lv_lconst (v := 0) X.1 X.2.1 (dck_at da_X12_where 2 rfl) rfl ?_
  refine lv_lconst (v := 1) X.1 X.2.1 (dck_at da_X12_where 3 rfl) rfl ?_
  obtain ⟨r3, s3, hc, h⟩ := gB2_some h
  refine gr_backi Y (gr_runS (as := [.long ((a1).toInt64), .long (0 : Int64), .long (1 : Int64)]) (rest := []) X G Y (ok_m_in hc) cs_RX12_126 ⟨Nat.le_of_ble_eq_true rfl, Nat.le_of_ble_eq_true rfl⟩ rfl hl.1 (Nat.le_of_ble_eq_true rfl) (dck_at da_X12_where 4 rfl)) (fun H locs Y => ?_)
  refine lv_if_ne (tgt := 16) X.1 X.2.1 (dck_at da_X12_where 5 rfl) rfl (fun c => ?_) (fun c => ?_)
  · have h := gI_neg h c
    refine lv_bipush X.1 X.2.1 (dck_at da_X12_where 10 rfl) kb_m4 ?_
    refine lv_istore_n (lv' := [(2, .int (-4 : Int32)), (0, .ref (ad 0)), (1, .int a1)]) X.1 X.2.1 (dck_at da_X12_where 11 rfl) rfl hl (by decide) rfl (fun ls hl => ?_)
    refine lv_lconst (v := 0) X.1 X.2.1 (dck_at da_X12_where 12 rfl) rfl ?_
    refine lv_lstore_n (lv' := [(3, .long (0 : Int64)), (2, .int (-4 : Int32)), (0, .ref (ad 0)), (1, .int a1)]) X.1 X.2.1 (dck_at da_X12_where 13 rfl) rfl hl (by decide) rfl (fun ls hl => ?_)
    refine lv_iconst X.1 X.2.1 (dck_at da_X12_where 14 rfl) ki_0 ?_
    refine lv_istore (lv' := [(5, .int (0 : Int32)), (3, .long (0 : Int64)), (2, .int (-4 : Int32)), (0, .ref (ad 0)), (1, .int a1)]) X.1 X.2.1 (dck_at da_X12_where 15 rfl) hl (by decide) rfl (fun ls hl => ?_)
    exact b24 F a1 (-4 : Int32) (0 : Int64) (0 : Int32) s3 _ _ _ h Y (lv_sub hl [3, 4, 2, 1, 0] rfl)
  · have h := gI_pos h c
    refine lv_aload_n X.1 X.2.1 (dck_at da_X12_where 6 rfl) rfl (lv_at hl 0 rfl) ?_
    refine lv_iconst X.1 X.2.1 (dck_at da_X12_where 7 rfl) ki_m1 ?_
    obtain ⟨r4, s4, hc, h⟩ := gB2_some h
    refine gr_backi Y (gr_runV (as := [.int (-1 : Int32)]) (rest := []) X G Y (ok_m_tells hc) cv_RX12_130 clM_0 ⟨Nat.le_of_ble_eq_true rfl, Nat.le_of_ble_eq_true rfl⟩ rfl hl.1 (Nat.le_of_ble_eq_true rfl) (dck_at da_X12_where 8 rfl)) (fun H locs Y => ?_)
    exact gr_iretO X Y h hr rfl hlk (dck_at da_X12_where 9 rfl)
set_option maxRecDepth 100000 in
set_option maxHeartbeats 4000000 in
theorem ok_m_cellsOf {l : Launch} {D : va_G} {cy : Nat → ClassId} {ad sa : Nat → Nat} {A : Nat → Prop} {F : Nat} {a1 : Int32} {s0 : St} {ρ : Int32} {σ' : St} (h : m_cellsOf F a1 s0 = some (ρ, σ')) : gMi l shM D cy ad sa A yX12_cellsOf cX12_cellsOf 4 (some .int) 1 [.ref (ad 0), .int a1] s0 ρ σ' := by
  refine gM_of (by decide) (Nat.le_of_ble_eq_true rfl) ?_
  intro p e s m args below meth c ls X G Y hr hlk hl
  have hl : lv_has ls 4 [(0, .ref (ad 0)), (1, .int a1)] := hl
  have b4 : ∀ n : Nat, ∀ (x1 : Int32) (x2 : Int32) (x3 : Int32) (s0 : St) (H : Heap) (locs : List Loc) (ls : Array Slot), m_cellsOf_L4 F  n x1 x2 x3 s0 = some (ρ, σ') → gY shM D cy ad A s0 s H locs → lv_has ls 4 [(0, .ref (ad 0)), (1, .int x1), (2, .int x2), (3, .int x3)] → W p l e (grm 1) s m args below meth c H locs 0 0 (MQ below (va_Qi (fun (q : Int32) (_ : Unit) => q = ρ) (fun _ t => va_P D vwCl (gWl shM cy ad σ') t.heap) A) args s 0 0 A) (F0 m 4 ls []) := by
    intro n
    induction n with
    | zero => intro x1 x2 x3 s0 H locs ls h Y hl; exact (gnone h).elim
    | succ n hk4 =>
      have e : m_cellsOf_L4 F  (n + 1) = m_cellsOf_L4b F  (m_cellsOf_L4 F  n) := rfl
      rw [e]; clear e
      generalize m_cellsOf_L4 F  n = k4 at hk4 ⊢
      have b27 : ∀ (x1 : Int32) (x3 : Int32) (y0 : Int32) (y1 : Int32) (s0 : St) (H : Heap) (locs : List Loc) (ls : Array Slot), m_cellsOf_J27 F k4 x1 x3 y0 y1 s0 = some (ρ, σ') → gY shM D cy ad A s0 s H locs → lv_has ls 4 [(0, .ref (ad 0)), (1, .int x1), (3, .int x3)] → W p l e (grm 1) s m args below meth c H locs 0 0 (MQ below (va_Qi (fun (q : Int32) (_ : Unit) => q = ρ) (fun _ t => va_P D vwCl (gWl shM cy ad σ') t.heap) A) args s 0 0 A) (F0 m 27 ls [.int y1, .int y0]) := by
        intro x1 x3 y0 y1 s0 H locs ls h Y hl
        unfold m_cellsOf_J27 at h
        refine lv_iadd X.1 X.2.1 (dck_at da_X12_cellsOf 17 rfl) ?_
        refine lv_istore_n (lv' := [(2, .int (y0 + y1)), (0, .ref (ad 0)), (1, .int x1), (3, .int x3)]) X.1 X.2.1 (dck_at da_X12_cellsOf 18 rfl) rfl hl (by decide) rfl (fun ls hl => ?_)
        refine lv_iinc (v := x3 + (1 : Int32)) (lv' := [(3, .int (x3 + (1 : Int32))), (2, .int (y0 + y1)), (0, .ref (ad 0)), (1, .int x1)]) X.1 X.2.1 (dck_at da_X12_cellsOf 19 rfl) hl (k := 3) rfl (congrArg (HAdd.hAdd _) ki_1) (by decide) rfl (fun ls hl => ?_)
        refine lv_goto (tgt := 4) X.1 X.2.1 (dck_at da_X12_cellsOf 20 rfl) rfl ?_
        exact hk4 x1 (y0 + y1) (x3 + (1 : Int32)) s0 _ _ _ h Y (lv_sub hl [2, 3, 1, 0] rfl)
      intro x1 x2 x3 s0 H locs ls h Y hl
      unfold m_cellsOf_L4b at h
      refine lv_iload_n X.1 X.2.1 (dck_at da_X12_cellsOf 4 rfl) rfl (lv_at hl 3 rfl) ?_
      refine lv_sipush X.1 X.2.1 (dck_at da_X12_cellsOf 5 rfl) ks_144 ?_
      refine lv_icmp_ge (tgt := 35) X.1 X.2.1 (dck_at da_X12_cellsOf 6 rfl) rfl (fun c => ?_) (fun c => ?_)
      · have h := gI_pos h c
        refine lv_iload_n X.1 X.2.1 (dck_at da_X12_cellsOf 21 rfl) rfl (lv_at hl 2 rfl) ?_
        exact gr_iretO X Y h hr rfl hlk (dck_at da_X12_cellsOf 22 rfl)
      · have h := gI_neg h c
        refine lv_iload_n X.1 X.2.1 (dck_at da_X12_cellsOf 7 rfl) rfl (lv_at hl 2 rfl) ?_
        refine lv_aload_n X.1 X.2.1 (dck_at da_X12_cellsOf 8 rfl) rfl (lv_at hl 0 rfl) ?_
        refine gr_getR X G Y fk_RX12_13 clM_0 rfl (dck_at da_X12_cellsOf 9 rfl) ?_
        refine lv_iload_n X.1 X.2.1 (dck_at da_X12_cellsOf 10 rfl) rfl (lv_at hl 3 rfl) ?_
        obtain ⟨hin, h⟩ := gI_if h
        refine gr_iald X G Y clM_2 hin (dck_at da_X12_cellsOf 11 rfl) ?_
        refine lv_iload_n X.1 X.2.1 (dck_at da_X12_cellsOf 12 rfl) rfl (lv_at hl 1 rfl) ?_
        refine lv_icmp_ne (tgt := 26) X.1 X.2.1 (dck_at da_X12_cellsOf 13 rfl) rfl (fun c => ?_) (fun c => ?_)
        · have h := gI_neg h c
          refine lv_iconst X.1 X.2.1 (dck_at da_X12_cellsOf 16 rfl) ki_0 ?_
          exact b27 x1 x3 x2 (0 : Int32) s0 _ _ _ h Y (lv_sub hl [0, 1, 3] rfl)
        · have h := gI_pos h c
          refine lv_iconst X.1 X.2.1 (dck_at da_X12_cellsOf 14 rfl) ki_1 ?_
          refine lv_goto (tgt := 27) X.1 X.2.1 (dck_at da_X12_cellsOf 15 rfl) rfl ?_
          exact b27 x1 x3 x2 (1 : Int32) s0 _ _ _ h Y (lv_sub hl [0, 1, 3] rfl)
  unfold m_cellsOf at h
  refine lv_iconst X.1 X.2.1 (dck_at da_X12_cellsOf 0 rfl) ki_0 ?_
  refine lv_istore_n (lv' := [(2, .int (0 : Int32)), (0, .ref (ad 0)), (1, .int a1)]) X.1 X.2.1 (dck_at da_X12_cellsOf 1 rfl) rfl hl (by decide) rfl (fun ls hl => ?_)
  refine lv_iconst X.1 X.2.1 (dck_at da_X12_cellsOf 2 rfl) ki_0 ?_
  refine lv_istore_n (lv' := [(3, .int (0 : Int32)), (2, .int (0 : Int32)), (0, .ref (ad 0)), (1, .int a1)]) X.1 X.2.1 (dck_at da_X12_cellsOf 3 rfl) rfl hl (by decide) rfl (fun ls hl => ?_)
  exact b4 F a1 (0 : Int32) (0 : Int32) s0 _ _ _ h Y (lv_sub hl [2, 3, 1, 0] rfl)
set_option maxRecDepth 100000 in
set_option maxHeartbeats 4000000 in
theorem ok_m_count {l : Launch} {D : va_G} {cy : Nat → ClassId} {ad sa : Nat → Nat} {A : Nat → Prop} {F : Nat} {a1 : Int32} {s0 : St} {ρ : Int32} {σ' : St} (h : m_count F a1 s0 = some (ρ, σ')) : gMi l shM D cy ad sa A yX12_count cX12_count 4 (some .int) 3 [.ref (ad 0), .int a1] s0 ρ σ' := by
  refine gM_of (by decide) (Nat.le_of_ble_eq_true rfl) ?_
  intro p e s m args below meth c ls X G Y hr hlk hl
  have hl : lv_has ls 4 [(0, .ref (ad 0)), (1, .int a1)] := hl
  have b4 : ∀ n : Nat, ∀ (x1 : Int32) (x2 : Int32) (x3 : Int32) (s0 : St) (H : Heap) (locs : List Loc) (ls : Array Slot), m_count_L4 F  n x1 x2 x3 s0 = some (ρ, σ') → gY shM D cy ad A s0 s H locs → lv_has ls 4 [(0, .ref (ad 0)), (1, .int x1), (2, .int x2), (3, .int x3)] → W p l e (grm 3) s m args below meth c H locs 0 0 (MQ below (va_Qi (fun (q : Int32) (_ : Unit) => q = ρ) (fun _ t => va_P D vwCl (gWl shM cy ad σ') t.heap) A) args s 0 0 A) (F0 m 4 ls []) := by
    intro n
    induction n with
    | zero => intro x1 x2 x3 s0 H locs ls h Y hl; exact (gnone h).elim
    | succ n hk4 =>
      have e : m_count_L4 F  (n + 1) = m_count_L4b F  (m_count_L4 F  n) := rfl
      rw [e]; clear e
      generalize m_count_L4 F  n = k4 at hk4 ⊢
      have b26 : ∀ (x1 : Int32) (x3 : Int32) (y0 : Int32) (y1 : Int32) (s0 : St) (H : Heap) (locs : List Loc) (ls : Array Slot), m_count_J26 F k4 x1 x3 y0 y1 s0 = some (ρ, σ') → gY shM D cy ad A s0 s H locs → lv_has ls 4 [(0, .ref (ad 0)), (1, .int x1), (3, .int x3)] → W p l e (grm 3) s m args below meth c H locs 0 0 (MQ below (va_Qi (fun (q : Int32) (_ : Unit) => q = ρ) (fun _ t => va_P D vwCl (gWl shM cy ad σ') t.heap) A) args s 0 0 A) (F0 m 26 ls [.int y1, .int y0]) := by
        intro x1 x3 y0 y1 s0 H locs ls h Y hl
        unfold m_count_J26 at h
        refine lv_iadd X.1 X.2.1 (dck_at da_X12_count 16 rfl) ?_
        refine lv_istore_n (lv' := [(2, .int (y0 + y1)), (0, .ref (ad 0)), (1, .int x1), (3, .int x3)]) X.1 X.2.1 (dck_at da_X12_count 17 rfl) rfl hl (by decide) rfl (fun ls hl => ?_)
        refine lv_iinc (v := x3 + (1 : Int32)) (lv' := [(3, .int (x3 + (1 : Int32))), (2, .int (y0 + y1)), (0, .ref (ad 0)), (1, .int x1)]) X.1 X.2.1 (dck_at da_X12_count 18 rfl) hl (k := 3) rfl (congrArg (HAdd.hAdd _) ki_1) (by decide) rfl (fun ls hl => ?_)
        refine lv_goto (tgt := 4) X.1 X.2.1 (dck_at da_X12_count 19 rfl) rfl ?_
        exact hk4 x1 (y0 + y1) (x3 + (1 : Int32)) s0 _ _ _ h Y (lv_sub hl [2, 3, 1, 0] rfl)
      intro x1 x2 x3 s0 H locs ls h Y hl
      unfold m_count_L4b at h
      refine lv_iload_n X.1 X.2.1 (dck_at da_X12_count 4 rfl) rfl (lv_at hl 3 rfl) ?_
      refine lv_sipush X.1 X.2.1 (dck_at da_X12_count 5 rfl) ks_144 ?_
      refine lv_icmp_ge (tgt := 34) X.1 X.2.1 (dck_at da_X12_count 6 rfl) rfl (fun c => ?_) (fun c => ?_)
      · have h := gI_pos h c
        refine lv_iload_n X.1 X.2.1 (dck_at da_X12_count 20 rfl) rfl (lv_at hl 1 rfl) ?_
        by_cases c0 : x1 = (0 : Int32)
        · have h := gI_pos h c0
          refine lv_tableIn (tgt := 84) (off := 49) X.1 X.2.1 (dck_at da_X12_count 21 rfl) (by rw [c0]; decide) (by rw [c0]; decide) (by rw [c0]; rfl) rfl ?_
          refine lv_aload_n X.1 X.2.1 (dck_at da_X12_count 22 rfl) rfl (lv_at hl 0 rfl) ?_
          refine lv_aload_n X.1 X.2.1 (dck_at da_X12_count 23 rfl) rfl (lv_at hl 0 rfl) ?_
          refine gr_getI X G Y fk_RX12_107 clM_0 rfl (dck_at da_X12_count 24 rfl) ?_
          obtain ⟨r1, s1, hc, h⟩ := gB2_some h
          refine gr_backi Y (gr_runV (as := [.int (s0.1 0 13)]) (rest := []) X G Y (ok_m_tells hc) cv_RX12_130 clM_0 ⟨Nat.le_of_ble_eq_true rfl, Nat.le_of_ble_eq_true rfl⟩ rfl hl.1 (Nat.le_of_ble_eq_true rfl) (dck_at da_X12_count 25 rfl)) (fun H locs Y => ?_)
          exact gr_iretO X Y h hr rfl hlk (dck_at da_X12_count 26 rfl)
        have h := gI_neg h c0
        by_cases c1 : x1 = (1 : Int32)
        · have h := gI_pos h c1
          refine lv_tableIn (tgt := 93) (off := 58) X.1 X.2.1 (dck_at da_X12_count 21 rfl) (by rw [c1]; decide) (by rw [c1]; decide) (by rw [c1]; rfl) rfl ?_
          refine lv_aload_n X.1 X.2.1 (dck_at da_X12_count 27 rfl) rfl (lv_at hl 0 rfl) ?_
          refine gr_getI X G Y fk_RX12_228 clM_0 rfl (dck_at da_X12_count 28 rfl) ?_
          exact gr_iretO X Y h hr rfl hlk (dck_at da_X12_count 29 rfl)
        have h := gI_neg h c1
        by_cases c2 : x1 = (2 : Int32)
        · have h := gI_pos h c2
          refine lv_tableIn (tgt := 98) (off := 63) X.1 X.2.1 (dck_at da_X12_count 21 rfl) (by rw [c2]; decide) (by rw [c2]; decide) (by rw [c2]; rfl) rfl ?_
          refine lv_aload_n X.1 X.2.1 (dck_at da_X12_count 30 rfl) rfl (lv_at hl 0 rfl) ?_
          refine gr_getI X G Y fk_RX12_231 clM_0 rfl (dck_at da_X12_count 31 rfl) ?_
          exact gr_iretO X Y h hr rfl hlk (dck_at da_X12_count 32 rfl)
        have h := gI_neg h c2
        by_cases c3 : x1 = (3 : Int32)
        · have h := gI_pos h c3
          refine lv_tableIn (tgt := 103) (off := 68) X.1 X.2.1 (dck_at da_X12_count 21 rfl) (by rw [c3]; decide) (by rw [c3]; decide) (by rw [c3]; rfl) rfl ?_
          refine lv_aload_n X.1 X.2.1 (dck_at da_X12_count 33 rfl) rfl (lv_at hl 0 rfl) ?_
          refine gr_getI X G Y fk_RX12_234 clM_0 rfl (dck_at da_X12_count 34 rfl) ?_
          exact gr_iretO X Y h hr rfl hlk (dck_at da_X12_count 35 rfl)
        have h := gI_neg h c3
        by_cases c4 : x1 = (4 : Int32)
        · have h := gI_pos h c4
          refine lv_tableIn (tgt := 108) (off := 73) X.1 X.2.1 (dck_at da_X12_count 21 rfl) (by rw [c4]; decide) (by rw [c4]; decide) (by rw [c4]; rfl) rfl ?_
          refine lv_aload_n X.1 X.2.1 (dck_at da_X12_count 36 rfl) rfl (lv_at hl 0 rfl) ?_
          refine gr_getI X G Y fk_RX12_237 clM_0 rfl (dck_at da_X12_count 37 rfl) ?_
          exact gr_iretO X Y h hr rfl hlk (dck_at da_X12_count 38 rfl)
        have h := gI_neg h c4
        by_cases c5 : x1 = (5 : Int32)
        · have h := gI_pos h c5
          refine lv_tableIn (tgt := 113) (off := 78) X.1 X.2.1 (dck_at da_X12_count 21 rfl) (by rw [c5]; decide) (by rw [c5]; decide) (by rw [c5]; rfl) rfl ?_
          refine lv_aload_n X.1 X.2.1 (dck_at da_X12_count 39 rfl) rfl (lv_at hl 0 rfl) ?_
          refine gr_getI X G Y fk_RX12_240 clM_0 rfl (dck_at da_X12_count 40 rfl) ?_
          exact gr_iretO X Y h hr rfl hlk (dck_at da_X12_count 41 rfl)
        have h := gI_neg h c5
        by_cases c6 : x1 = (6 : Int32)
        · have h := gI_pos h c6
          refine lv_tableIn (tgt := 118) (off := 83) X.1 X.2.1 (dck_at da_X12_count 21 rfl) (by rw [c6]; decide) (by rw [c6]; decide) (by rw [c6]; rfl) rfl ?_
          refine lv_iload_n X.1 X.2.1 (dck_at da_X12_count 42 rfl) rfl (lv_at hl 2 rfl) ?_
          exact gr_iretO X Y h hr rfl hlk (dck_at da_X12_count 43 rfl)
        have h := gI_neg h c6
        by_cases c7 : x1 = (7 : Int32)
        · have h := gI_pos h c7
          refine lv_tableIn (tgt := 120) (off := 85) X.1 X.2.1 (dck_at da_X12_count 21 rfl) (by rw [c7]; decide) (by rw [c7]; decide) (by rw [c7]; rfl) rfl ?_
          refine lv_aload_n X.1 X.2.1 (dck_at da_X12_count 44 rfl) rfl (lv_at hl 0 rfl) ?_
          refine lv_bipush X.1 X.2.1 (dck_at da_X12_count 45 rfl) kb_6 ?_
          obtain ⟨r2, s2, hc, h⟩ := gB2_some h
          refine gr_backi Y (gr_runV (as := [.int (6 : Int32)]) (rest := []) X G Y (ok_m_cellsOf hc) cv_RX12_243 clM_0 ⟨Nat.le_of_ble_eq_true rfl, Nat.le_of_ble_eq_true rfl⟩ rfl hl.1 (Nat.le_of_ble_eq_true rfl) (dck_at da_X12_count 46 rfl)) (fun H locs Y => ?_)
          exact gr_iretO X Y h hr rfl hlk (dck_at da_X12_count 47 rfl)
        have h := gI_neg h c7
        by_cases c8 : x1 = (8 : Int32)
        · have h := gI_pos h c8
          refine lv_tableIn (tgt := 127) (off := 92) X.1 X.2.1 (dck_at da_X12_count 21 rfl) (by rw [c8]; decide) (by rw [c8]; decide) (by rw [c8]; rfl) rfl ?_
          refine lv_aload_n X.1 X.2.1 (dck_at da_X12_count 48 rfl) rfl (lv_at hl 0 rfl) ?_
          refine lv_bipush X.1 X.2.1 (dck_at da_X12_count 49 rfl) kb_7 ?_
          obtain ⟨r3, s3, hc, h⟩ := gB2_some h
          refine gr_backi Y (gr_runV (as := [.int (7 : Int32)]) (rest := []) X G Y (ok_m_cellsOf hc) cv_RX12_243 clM_0 ⟨Nat.le_of_ble_eq_true rfl, Nat.le_of_ble_eq_true rfl⟩ rfl hl.1 (Nat.le_of_ble_eq_true rfl) (dck_at da_X12_count 50 rfl)) (fun H locs Y => ?_)
          exact gr_iretO X Y h hr rfl hlk (dck_at da_X12_count 51 rfl)
        have h := gI_neg h c8
        refine lv_tableOut (tgt := 134) X.1 X.2.1 (dck_at da_X12_count 21 rfl) (by have t0 := lv_neT (a := 0) c0 rfl; have t1 := lv_neT (a := 1) c1 rfl; have t2 := lv_neT (a := 2) c2 rfl; have t3 := lv_neT (a := 3) c3 rfl; have t4 := lv_neT (a := 4) c4 rfl; have t5 := lv_neT (a := 5) c5 rfl; have t6 := lv_neT (a := 6) c6 rfl; have t7 := lv_neT (a := 7) c7 rfl; have t8 := lv_neT (a := 8) c8 rfl; omega) rfl ?_
        refine lv_aload_n X.1 X.2.1 (dck_at da_X12_count 52 rfl) rfl (lv_at hl 0 rfl) ?_
        refine lv_iconst X.1 X.2.1 (dck_at da_X12_count 53 rfl) ki_m1 ?_
        obtain ⟨r4, s4, hc, h⟩ := gB2_some h
        refine gr_backi Y (gr_runV (as := [.int (-1 : Int32)]) (rest := []) X G Y (ok_m_tells hc) cv_RX12_130 clM_0 ⟨Nat.le_of_ble_eq_true rfl, Nat.le_of_ble_eq_true rfl⟩ rfl hl.1 (Nat.le_of_ble_eq_true rfl) (dck_at da_X12_count 54 rfl)) (fun H locs Y => ?_)
        exact gr_iretO X Y h hr rfl hlk (dck_at da_X12_count 55 rfl)
      · have h := gI_neg h c
        refine lv_iload_n X.1 X.2.1 (dck_at da_X12_count 7 rfl) rfl (lv_at hl 2 rfl) ?_
        refine lv_aload_n X.1 X.2.1 (dck_at da_X12_count 8 rfl) rfl (lv_at hl 0 rfl) ?_
        refine gr_getR X G Y fk_RX12_19 clM_0 rfl (dck_at da_X12_count 9 rfl) ?_
        refine lv_iload_n X.1 X.2.1 (dck_at da_X12_count 10 rfl) rfl (lv_at hl 3 rfl) ?_
        obtain ⟨hin, h⟩ := gI_if h
        refine gr_iald X G Y clM_4 hin (dck_at da_X12_count 11 rfl) ?_
        refine lv_if_le (tgt := 25) X.1 X.2.1 (dck_at da_X12_count 12 rfl) rfl (fun c => ?_) (fun c => ?_)
        · have h := gI_pos h c
          refine lv_iconst X.1 X.2.1 (dck_at da_X12_count 15 rfl) ki_0 ?_
          exact b26 x1 x3 x2 (0 : Int32) s0 _ _ _ h Y (lv_sub hl [0, 1, 3] rfl)
        · have h := gI_neg h c
          refine lv_iconst X.1 X.2.1 (dck_at da_X12_count 13 rfl) ki_1 ?_
          refine lv_goto (tgt := 26) X.1 X.2.1 (dck_at da_X12_count 14 rfl) rfl ?_
          exact b26 x1 x3 x2 (1 : Int32) s0 _ _ _ h Y (lv_sub hl [0, 1, 3] rfl)
  unfold m_count at h
  refine lv_iconst X.1 X.2.1 (dck_at da_X12_count 0 rfl) ki_0 ?_
  refine lv_istore_n (lv' := [(2, .int (0 : Int32)), (0, .ref (ad 0)), (1, .int a1)]) X.1 X.2.1 (dck_at da_X12_count 1 rfl) rfl hl (by decide) rfl (fun ls hl => ?_)
  refine lv_iconst X.1 X.2.1 (dck_at da_X12_count 2 rfl) ki_0 ?_
  refine lv_istore_n (lv' := [(3, .int (0 : Int32)), (2, .int (0 : Int32)), (0, .ref (ad 0)), (1, .int a1)]) X.1 X.2.1 (dck_at da_X12_count 3 rfl) rfl hl (by decide) rfl (fun ls hl => ?_)
  exact b4 F a1 (0 : Int32) (0 : Int32) s0 _ _ _ h Y (lv_sub hl [2, 3, 1, 0] rfl)
set_option maxRecDepth 100000 in
set_option maxHeartbeats 4000000 in
theorem ok_m_plain {l : Launch} {D : va_G} {cy : Nat → ClassId} {ad sa : Nat → Nat} {A : Nat → Prop} {F : Nat} {a0 : Int32} {a1 : Int32} {s0 : St} {ρ : Int32} {σ' : St} (h : m_plain F a0 a1 s0 = some (ρ, σ')) : gMi l shM D cy ad sa A yX12_plain cX12_plain 2 (some .int) 1 [.int a0, .int a1] s0 ρ σ' := by
  refine gM_of (by decide) (Nat.le_of_ble_eq_true rfl) ?_
  intro p e s m args below meth c ls X G Y hr hlk hl
  have hl : lv_has ls 2 [(0, .int a0), (1, .int a1)] := hl
  have b177 : ∀  (s0 : St) (H : Heap) (locs : List Loc) (ls : Array Slot), m_plain_J177 F  s0 = some (ρ, σ') → gY shM D cy ad A s0 s H locs → lv_has ls 2 [] → W p l e (grm 1) s m args below meth c H locs 0 0 (MQ below (va_Qi (fun (q : Int32) (_ : Unit) => q = ρ) (fun _ t => va_P D vwCl (gWl shM cy ad σ') t.heap) A) args s 0 0 A) (F0 m 177 ls []) := by
    intro s0 H locs ls h Y hl
    unfold m_plain_J177 at h
    refine lv_iconst X.1 X.2.1 (dck_at da_X12_plain 81 rfl) ki_2 ?_
    refine lv_goto (tgt := 214) X.1 X.2.1 (dck_at da_X12_plain 82 rfl) rfl ?_
    exact gr_iretO X Y h hr rfl hlk (dck_at da_X12_plain 99 rfl)
  have b109 : ∀  (s0 : St) (H : Heap) (locs : List Loc) (ls : Array Slot), m_plain_J109 F  s0 = some (ρ, σ') → gY shM D cy ad A s0 s H locs → lv_has ls 2 [] → W p l e (grm 1) s m args below meth c H locs 0 0 (MQ below (va_Qi (fun (q : Int32) (_ : Unit) => q = ρ) (fun _ t => va_P D vwCl (gWl shM cy ad σ') t.heap) A) args s 0 0 A) (F0 m 109 ls []) := by
    intro s0 H locs ls h Y hl
    unfold m_plain_J109 at h
    refine lv_iconst X.1 X.2.1 (dck_at da_X12_plain 44 rfl) ki_0 ?_
    refine lv_goto (tgt := 115) X.1 X.2.1 (dck_at da_X12_plain 45 rfl) rfl ?_
    exact gr_iretO X Y h hr rfl hlk (dck_at da_X12_plain 47 rfl)
  have b146 : ∀  (s0 : St) (H : Heap) (locs : List Loc) (ls : Array Slot), m_plain_J146 F  s0 = some (ρ, σ') → gY shM D cy ad A s0 s H locs → lv_has ls 2 [] → W p l e (grm 1) s m args below meth c H locs 0 0 (MQ below (va_Qi (fun (q : Int32) (_ : Unit) => q = ρ) (fun _ t => va_P D vwCl (gWl shM cy ad σ') t.heap) A) args s 0 0 A) (F0 m 146 ls []) := by
    intro s0 H locs ls h Y hl
    unfold m_plain_J146 at h
    refine lv_bipush X.1 X.2.1 (dck_at da_X12_plain 64 rfl) kb_10 ?_
    refine lv_goto (tgt := 162) X.1 X.2.1 (dck_at da_X12_plain 65 rfl) rfl ?_
    exact gr_iretO X Y h hr rfl hlk (dck_at da_X12_plain 72 rfl)
  unfold m_plain at h
  refine lv_iload_n X.1 X.2.1 (dck_at da_X12_plain 0 rfl) rfl (lv_at hl 0 rfl) ?_
  by_cases c0 : a0 = (0 : Int32)
  · have h := gI_pos h c0
    refine lv_tableIn (tgt := 28) (off := 27) X.1 X.2.1 (dck_at da_X12_plain 1 rfl) (by rw [c0]; decide) (by rw [c0]; decide) (by rw [c0]; rfl) rfl ?_
    refine lv_iload_n X.1 X.2.1 (dck_at da_X12_plain 2 rfl) rfl (lv_at hl 1 rfl) ?_
    refine lv_if_ne (tgt := 37) X.1 X.2.1 (dck_at da_X12_plain 3 rfl) rfl (fun c => ?_) (fun c => ?_)
    · have h := gI_neg h c
      refine lv_iload_n X.1 X.2.1 (dck_at da_X12_plain 6 rfl) rfl (lv_at hl 1 rfl) ?_
      refine lv_iconst X.1 X.2.1 (dck_at da_X12_plain 7 rfl) ki_1 ?_
      refine lv_icmp_ne (tgt := 47) X.1 X.2.1 (dck_at da_X12_plain 8 rfl) rfl (fun c => ?_) (fun c => ?_)
      · have h := gI_neg h c
        refine lv_iload_n X.1 X.2.1 (dck_at da_X12_plain 11 rfl) rfl (lv_at hl 1 rfl) ?_
        refine lv_iconst X.1 X.2.1 (dck_at da_X12_plain 12 rfl) ki_2 ?_
        refine lv_icmp_ne (tgt := 57) X.1 X.2.1 (dck_at da_X12_plain 13 rfl) rfl (fun c => ?_) (fun c => ?_)
        · have h := gI_neg h c
          refine lv_iload_n X.1 X.2.1 (dck_at da_X12_plain 16 rfl) rfl (lv_at hl 1 rfl) ?_
          refine lv_iconst X.1 X.2.1 (dck_at da_X12_plain 17 rfl) ki_3 ?_
          refine lv_icmp_ne (tgt := 66) X.1 X.2.1 (dck_at da_X12_plain 18 rfl) rfl (fun c => ?_) (fun c => ?_)
          · have h := gI_neg h c
            refine lv_iload_n X.1 X.2.1 (dck_at da_X12_plain 21 rfl) rfl (lv_at hl 1 rfl) ?_
            refine lv_iconst X.1 X.2.1 (dck_at da_X12_plain 22 rfl) ki_4 ?_
            refine lv_icmp_ne (tgt := 76) X.1 X.2.1 (dck_at da_X12_plain 23 rfl) rfl (fun c => ?_) (fun c => ?_)
            · have h := gI_neg h c
              refine lv_iload_n X.1 X.2.1 (dck_at da_X12_plain 26 rfl) rfl (lv_at hl 1 rfl) ?_
              refine lv_iconst X.1 X.2.1 (dck_at da_X12_plain 27 rfl) ki_5 ?_
              refine lv_icmp_ne (tgt := 85) X.1 X.2.1 (dck_at da_X12_plain 28 rfl) rfl (fun c => ?_) (fun c => ?_)
              · have h := gI_neg h c
                refine lv_iload_n X.1 X.2.1 (dck_at da_X12_plain 31 rfl) rfl (lv_at hl 1 rfl) ?_
                refine lv_bipush X.1 X.2.1 (dck_at da_X12_plain 32 rfl) kb_6 ?_
                refine lv_icmp_ne (tgt := 96) X.1 X.2.1 (dck_at da_X12_plain 33 rfl) rfl (fun c => ?_) (fun c => ?_)
                · have h := gI_neg h c
                  refine lv_bipush X.1 X.2.1 (dck_at da_X12_plain 36 rfl) kb_10 ?_
                  exact gr_iretO X Y h hr rfl hlk (dck_at da_X12_plain 37 rfl)
                · have h := gI_pos h c
                  refine lv_bipush X.1 X.2.1 (dck_at da_X12_plain 34 rfl) kb_14 ?_
                  refine lv_goto (tgt := 98) X.1 X.2.1 (dck_at da_X12_plain 35 rfl) rfl ?_
                  exact gr_iretO X Y h hr rfl hlk (dck_at da_X12_plain 37 rfl)
              · have h := gI_pos h c
                refine lv_iconst X.1 X.2.1 (dck_at da_X12_plain 29 rfl) ki_4 ?_
                refine lv_goto (tgt := 98) X.1 X.2.1 (dck_at da_X12_plain 30 rfl) rfl ?_
                exact gr_iretO X Y h hr rfl hlk (dck_at da_X12_plain 37 rfl)
            · have h := gI_pos h c
              refine lv_bipush X.1 X.2.1 (dck_at da_X12_plain 24 rfl) kb_8 ?_
              refine lv_goto (tgt := 98) X.1 X.2.1 (dck_at da_X12_plain 25 rfl) rfl ?_
              exact gr_iretO X Y h hr rfl hlk (dck_at da_X12_plain 37 rfl)
          · have h := gI_pos h c
            refine lv_iconst X.1 X.2.1 (dck_at da_X12_plain 19 rfl) ki_0 ?_
            refine lv_goto (tgt := 98) X.1 X.2.1 (dck_at da_X12_plain 20 rfl) rfl ?_
            exact gr_iretO X Y h hr rfl hlk (dck_at da_X12_plain 37 rfl)
        · have h := gI_pos h c
          refine lv_bipush X.1 X.2.1 (dck_at da_X12_plain 14 rfl) kb_6 ?_
          refine lv_goto (tgt := 98) X.1 X.2.1 (dck_at da_X12_plain 15 rfl) rfl ?_
          exact gr_iretO X Y h hr rfl hlk (dck_at da_X12_plain 37 rfl)
      · have h := gI_pos h c
        refine lv_bipush X.1 X.2.1 (dck_at da_X12_plain 9 rfl) kb_14 ?_
        refine lv_goto (tgt := 98) X.1 X.2.1 (dck_at da_X12_plain 10 rfl) rfl ?_
        exact gr_iretO X Y h hr rfl hlk (dck_at da_X12_plain 37 rfl)
    · have h := gI_pos h c
      refine lv_bipush X.1 X.2.1 (dck_at da_X12_plain 4 rfl) kb_12 ?_
      refine lv_goto (tgt := 98) X.1 X.2.1 (dck_at da_X12_plain 5 rfl) rfl ?_
      exact gr_iretO X Y h hr rfl hlk (dck_at da_X12_plain 37 rfl)
  have h := gI_neg h c0
  by_cases c1 : a0 = (1 : Int32)
  · have h := gI_pos h c1
    refine lv_tableIn (tgt := 99) (off := 98) X.1 X.2.1 (dck_at da_X12_plain 1 rfl) (by rw [c1]; decide) (by rw [c1]; decide) (by rw [c1]; rfl) rfl ?_
    refine lv_iload_n X.1 X.2.1 (dck_at da_X12_plain 38 rfl) rfl (lv_at hl 1 rfl) ?_
    refine lv_iconst X.1 X.2.1 (dck_at da_X12_plain 39 rfl) ki_3 ?_
    refine lv_icmp_eq (tgt := 109) X.1 X.2.1 (dck_at da_X12_plain 40 rfl) rfl (fun c => ?_) (fun c => ?_)
    · have h := gI_pos h c
      exact b109 s0 _ _ _ h Y (lv_sub hl [] rfl)
    · have h := gI_neg h c
      refine lv_iload_n X.1 X.2.1 (dck_at da_X12_plain 41 rfl) rfl (lv_at hl 1 rfl) ?_
      refine lv_iconst X.1 X.2.1 (dck_at da_X12_plain 42 rfl) ki_4 ?_
      refine lv_icmp_ne (tgt := 113) X.1 X.2.1 (dck_at da_X12_plain 43 rfl) rfl (fun c => ?_) (fun c => ?_)
      · have h := gI_neg h c
        refine lv_bipush X.1 X.2.1 (dck_at da_X12_plain 46 rfl) kb_12 ?_
        exact gr_iretO X Y h hr rfl hlk (dck_at da_X12_plain 47 rfl)
      · have h := gI_pos h c
        exact b109 s0 _ _ _ h Y (lv_sub hl [] rfl)
  have h := gI_neg h c1
  by_cases c2 : a0 = (2 : Int32)
  · have h := gI_pos h c2
    refine lv_tableIn (tgt := 116) (off := 115) X.1 X.2.1 (dck_at da_X12_plain 1 rfl) (by rw [c2]; decide) (by rw [c2]; decide) (by rw [c2]; rfl) rfl ?_
    refine lv_iload_n X.1 X.2.1 (dck_at da_X12_plain 48 rfl) rfl (lv_at hl 1 rfl) ?_
    refine lv_iconst X.1 X.2.1 (dck_at da_X12_plain 49 rfl) ki_2 ?_
    refine lv_icmp_ge (tgt := 126) X.1 X.2.1 (dck_at da_X12_plain 50 rfl) rfl (fun c => ?_) (fun c => ?_)
    · have h := gI_pos h c
      refine lv_iload_n X.1 X.2.1 (dck_at da_X12_plain 53 rfl) rfl (lv_at hl 1 rfl) ?_
      refine lv_iconst X.1 X.2.1 (dck_at da_X12_plain 54 rfl) ki_2 ?_
      refine lv_icmp_ne (tgt := 135) X.1 X.2.1 (dck_at da_X12_plain 55 rfl) rfl (fun c => ?_) (fun c => ?_)
      · have h := gI_neg h c
        refine lv_iload_n X.1 X.2.1 (dck_at da_X12_plain 58 rfl) rfl (lv_at hl 1 rfl) ?_
        refine lv_iconst X.1 X.2.1 (dck_at da_X12_plain 59 rfl) ki_4 ?_
        refine lv_icmp_eq (tgt := 146) X.1 X.2.1 (dck_at da_X12_plain 60 rfl) rfl (fun c => ?_) (fun c => ?_)
        · have h := gI_pos h c
          exact b146 s0 _ _ _ h Y (lv_sub hl [] rfl)
        · have h := gI_neg h c
          refine lv_iload_n X.1 X.2.1 (dck_at da_X12_plain 61 rfl) rfl (lv_at hl 1 rfl) ?_
          refine lv_bipush X.1 X.2.1 (dck_at da_X12_plain 62 rfl) kb_6 ?_
          refine lv_icmp_ne (tgt := 151) X.1 X.2.1 (dck_at da_X12_plain 63 rfl) rfl (fun c => ?_) (fun c => ?_)
          · have h := gI_neg h c
            refine lv_iload_n X.1 X.2.1 (dck_at da_X12_plain 66 rfl) rfl (lv_at hl 1 rfl) ?_
            refine lv_iconst X.1 X.2.1 (dck_at da_X12_plain 67 rfl) ki_5 ?_
            refine lv_icmp_ne (tgt := 161) X.1 X.2.1 (dck_at da_X12_plain 68 rfl) rfl (fun c => ?_) (fun c => ?_)
            · have h := gI_neg h c
              refine lv_iconst X.1 X.2.1 (dck_at da_X12_plain 71 rfl) ki_0 ?_
              exact gr_iretO X Y h hr rfl hlk (dck_at da_X12_plain 72 rfl)
            · have h := gI_pos h c
              refine lv_bipush X.1 X.2.1 (dck_at da_X12_plain 69 rfl) kb_8 ?_
              refine lv_goto (tgt := 162) X.1 X.2.1 (dck_at da_X12_plain 70 rfl) rfl ?_
              exact gr_iretO X Y h hr rfl hlk (dck_at da_X12_plain 72 rfl)
          · have h := gI_pos h c
            exact b146 s0 _ _ _ h Y (lv_sub hl [] rfl)
      · have h := gI_pos h c
        refine lv_iconst X.1 X.2.1 (dck_at da_X12_plain 56 rfl) ki_4 ?_
        refine lv_goto (tgt := 162) X.1 X.2.1 (dck_at da_X12_plain 57 rfl) rfl ?_
        exact gr_iretO X Y h hr rfl hlk (dck_at da_X12_plain 72 rfl)
    · have h := gI_neg h c
      refine lv_bipush X.1 X.2.1 (dck_at da_X12_plain 51 rfl) kb_14 ?_
      refine lv_goto (tgt := 162) X.1 X.2.1 (dck_at da_X12_plain 52 rfl) rfl ?_
      exact gr_iretO X Y h hr rfl hlk (dck_at da_X12_plain 72 rfl)
  have h := gI_neg h c2
  refine lv_tableOut (tgt := 163) X.1 X.2.1 (dck_at da_X12_plain 1 rfl) (by have t0 := lv_neT (a := 0) c0 rfl; have t1 := lv_neT (a := 1) c1 rfl; have t2 := lv_neT (a := 2) c2 rfl; omega) rfl ?_
  refine lv_iload_n X.1 X.2.1 (dck_at da_X12_plain 73 rfl) rfl (lv_at hl 1 rfl) ?_
  refine lv_if_eq (tgt := 177) X.1 X.2.1 (dck_at da_X12_plain 74 rfl) rfl (fun c => ?_) (fun c => ?_)
  · have h := gI_pos h c
    exact b177 s0 _ _ _ h Y (lv_sub hl [] rfl)
  · have h := gI_neg h c
    refine lv_iload_n X.1 X.2.1 (dck_at da_X12_plain 75 rfl) rfl (lv_at hl 1 rfl) ?_
    refine lv_iconst X.1 X.2.1 (dck_at da_X12_plain 76 rfl) ki_2 ?_
    refine lv_icmp_eq (tgt := 177) X.1 X.2.1 (dck_at da_X12_plain 77 rfl) rfl (fun c => ?_) (fun c => ?_)
    · have h := gI_pos h c
      exact b177 s0 _ _ _ h Y (lv_sub hl [] rfl)
    · have h := gI_neg h c
      refine lv_iload_n X.1 X.2.1 (dck_at da_X12_plain 78 rfl) rfl (lv_at hl 1 rfl) ?_
      refine lv_iconst X.1 X.2.1 (dck_at da_X12_plain 79 rfl) ki_5 ?_
      refine lv_icmp_ne (tgt := 181) X.1 X.2.1 (dck_at da_X12_plain 80 rfl) rfl (fun c => ?_) (fun c => ?_)
      · have h := gI_neg h c
        refine lv_iload_n X.1 X.2.1 (dck_at da_X12_plain 83 rfl) rfl (lv_at hl 1 rfl) ?_
        refine lv_iconst X.1 X.2.1 (dck_at da_X12_plain 84 rfl) ki_1 ?_
        refine lv_icmp_ne (tgt := 191) X.1 X.2.1 (dck_at da_X12_plain 85 rfl) rfl (fun c => ?_) (fun c => ?_)
        · have h := gI_neg h c
          refine lv_iload_n X.1 X.2.1 (dck_at da_X12_plain 88 rfl) rfl (lv_at hl 1 rfl) ?_
          refine lv_bipush X.1 X.2.1 (dck_at da_X12_plain 89 rfl) kb_6 ?_
          refine lv_icmp_ne (tgt := 202) X.1 X.2.1 (dck_at da_X12_plain 90 rfl) rfl (fun c => ?_) (fun c => ?_)
          · have h := gI_neg h c
            refine lv_iload_n X.1 X.2.1 (dck_at da_X12_plain 93 rfl) rfl (lv_at hl 1 rfl) ?_
            refine lv_bipush X.1 X.2.1 (dck_at da_X12_plain 94 rfl) kb_7 ?_
            refine lv_icmp_ne (tgt := 213) X.1 X.2.1 (dck_at da_X12_plain 95 rfl) rfl (fun c => ?_) (fun c => ?_)
            · have h := gI_neg h c
              refine lv_iconst X.1 X.2.1 (dck_at da_X12_plain 98 rfl) ki_0 ?_
              exact gr_iretO X Y h hr rfl hlk (dck_at da_X12_plain 99 rfl)
            · have h := gI_pos h c
              refine lv_bipush X.1 X.2.1 (dck_at da_X12_plain 96 rfl) kb_10 ?_
              refine lv_goto (tgt := 214) X.1 X.2.1 (dck_at da_X12_plain 97 rfl) rfl ?_
              exact gr_iretO X Y h hr rfl hlk (dck_at da_X12_plain 99 rfl)
          · have h := gI_pos h c
            refine lv_bipush X.1 X.2.1 (dck_at da_X12_plain 91 rfl) kb_12 ?_
            refine lv_goto (tgt := 214) X.1 X.2.1 (dck_at da_X12_plain 92 rfl) rfl ?_
            exact gr_iretO X Y h hr rfl hlk (dck_at da_X12_plain 99 rfl)
        · have h := gI_pos h c
          refine lv_bipush X.1 X.2.1 (dck_at da_X12_plain 86 rfl) kb_8 ?_
          refine lv_goto (tgt := 214) X.1 X.2.1 (dck_at da_X12_plain 87 rfl) rfl ?_
          exact gr_iretO X Y h hr rfl hlk (dck_at da_X12_plain 99 rfl)
      · have h := gI_pos h c
        exact b177 s0 _ _ _ h Y (lv_sub hl [] rfl)
set_option maxRecDepth 100000 in
set_option maxHeartbeats 4000000 in
theorem ok_m_sixteenths {l : Launch} {D : va_G} {cy : Nat → ClassId} {ad sa : Nat → Nat} {A : Nat → Prop} {F : Nat} {a1 : Int32} {a2 : Int32} {a3 : Int32} {a4 : Int32} {s0 : St} {ρ : Int32} {σ' : St} (h : m_sixteenths F a1 a2 a3 a4 s0 = some (ρ, σ')) : gMi l shM D cy ad sa A yX12_sixteenths cX12_sixteenths 7 (some .int) 2 [.ref (ad 0), .int a1, .int a2, .int a3, .int a4] s0 ρ σ' := by
  refine gM_of (by decide) (Nat.le_of_ble_eq_true rfl) ?_
  intro p e s m args below meth c ls X G Y hr hlk hl
  have hl : lv_has ls 7 [(0, .ref (ad 0)), (1, .int a1), (2, .int a2), (3, .int a3), (4, .int a4)] := hl
  have b81 : ∀ (x1 : Int32) (x3 : Int32) (x5 : Int32) (y0 : Int32) (s0 : St) (H : Heap) (locs : List Loc) (ls : Array Slot), m_sixteenths_J81 F  x1 x3 x5 y0 s0 = some (ρ, σ') → gY shM D cy ad A s0 s H locs → lv_has ls 7 [(1, .int x1), (3, .int x3), (5, .int x5)] → W p l e (grm 2) s m args below meth c H locs 0 0 (MQ below (va_Qi (fun (q : Int32) (_ : Unit) => q = ρ) (fun _ t => va_P D vwCl (gWl shM cy ad σ') t.heap) A) args s 0 0 A) (F0 m 81 ls [.int y0]) := by
    intro x1 x3 x5 y0 s0 H locs ls h Y hl
    unfold m_sixteenths_J81 at h
    refine lv_istore (lv' := [(6, .int y0), (1, .int x1), (3, .int x3), (5, .int x5)]) X.1 X.2.1 (dck_at da_X12_sixteenths 45 rfl) hl (by decide) rfl (fun ls hl => ?_)
    refine lv_iload_n X.1 X.2.1 (dck_at da_X12_sixteenths 46 rfl) rfl (lv_at hl 2 rfl) ?_
    refine lv_if_ne (tgt := 92) X.1 X.2.1 (dck_at da_X12_sixteenths 47 rfl) rfl (fun c => ?_) (fun c => ?_)
    · have h := gI_neg h c
      refine lv_iload_n X.1 X.2.1 (dck_at da_X12_sixteenths 50 rfl) rfl (lv_at hl 1 rfl) ?_
      refine lv_iconst X.1 X.2.1 (dck_at da_X12_sixteenths 51 rfl) ki_3 ?_
      refine lv_icmp_ne (tgt := 101) X.1 X.2.1 (dck_at da_X12_sixteenths 52 rfl) rfl (fun c => ?_) (fun c => ?_)
      · have h := gI_neg h c
        refine lv_iload X.1 X.2.1 (dck_at da_X12_sixteenths 55 rfl) (lv_at hl 0 rfl) ?_
        refine lv_if_eq (tgt := 113) X.1 X.2.1 (dck_at da_X12_sixteenths 56 rfl) rfl (fun c => ?_) (fun c => ?_)
        · have h := gI_pos h c
          refine lv_iload X.1 X.2.1 (dck_at da_X12_sixteenths 61 rfl) (lv_at hl 3 rfl) ?_
          exact gr_iretO X Y h hr rfl hlk (dck_at da_X12_sixteenths 62 rfl)
        · have h := gI_neg h c
          refine lv_iload X.1 X.2.1 (dck_at da_X12_sixteenths 57 rfl) (lv_at hl 3 rfl) ?_
          refine lv_iconst X.1 X.2.1 (dck_at da_X12_sixteenths 58 rfl) ki_2 ?_
          refine lv_idiv X.1 X.2.1 (dck_at da_X12_sixteenths 59 rfl) (by decide) ?_
          refine lv_goto (tgt := 115) X.1 X.2.1 (dck_at da_X12_sixteenths 60 rfl) rfl ?_
          exact gr_iretO X Y h hr rfl hlk (dck_at da_X12_sixteenths 62 rfl)
      · have h := gI_pos h c
        refine lv_iconst X.1 X.2.1 (dck_at da_X12_sixteenths 53 rfl) ki_0 ?_
        refine lv_goto (tgt := 115) X.1 X.2.1 (dck_at da_X12_sixteenths 54 rfl) rfl ?_
        exact gr_iretO X Y h hr rfl hlk (dck_at da_X12_sixteenths 62 rfl)
    · have h := gI_pos h c
      refine lv_iload X.1 X.2.1 (dck_at da_X12_sixteenths 48 rfl) (lv_at hl 3 rfl) ?_
      refine lv_goto (tgt := 115) X.1 X.2.1 (dck_at da_X12_sixteenths 49 rfl) rfl ?_
      exact gr_iretO X Y h hr rfl hlk (dck_at da_X12_sixteenths 62 rfl)
  have b76 : ∀ (x1 : Int32) (x3 : Int32) (x5 : Int32) (s0 : St) (H : Heap) (locs : List Loc) (ls : Array Slot), m_sixteenths_J76 F  x1 x3 x5 s0 = some (ρ, σ') → gY shM D cy ad A s0 s H locs → lv_has ls 7 [(1, .int x1), (3, .int x3), (5, .int x5)] → W p l e (grm 2) s m args below meth c H locs 0 0 (MQ below (va_Qi (fun (q : Int32) (_ : Unit) => q = ρ) (fun _ t => va_P D vwCl (gWl shM cy ad σ') t.heap) A) args s 0 0 A) (F0 m 76 ls []) := by
    intro x1 x3 x5 s0 H locs ls h Y hl
    unfold m_sixteenths_J76 at h
    refine lv_iconst X.1 X.2.1 (dck_at da_X12_sixteenths 42 rfl) ki_1 ?_
    refine lv_goto (tgt := 81) X.1 X.2.1 (dck_at da_X12_sixteenths 43 rfl) rfl ?_
    exact b81 x1 x3 x5 (1 : Int32) s0 _ _ _ h Y (lv_sub hl [0, 1, 2] rfl)
  have b54 : ∀ (x1 : Int32) (x2 : Int32) (x3 : Int32) (y0 : Int32) (s0 : St) (H : Heap) (locs : List Loc) (ls : Array Slot), m_sixteenths_J54 F  x1 x2 x3 y0 s0 = some (ρ, σ') → gY shM D cy ad A s0 s H locs → lv_has ls 7 [(0, .ref (ad 0)), (1, .int x1), (2, .int x2), (3, .int x3)] → W p l e (grm 2) s m args below meth c H locs 0 0 (MQ below (va_Qi (fun (q : Int32) (_ : Unit) => q = ρ) (fun _ t => va_P D vwCl (gWl shM cy ad σ') t.heap) A) args s 0 0 A) (F0 m 54 ls [.int y0]) := by
    intro x1 x2 x3 y0 s0 H locs ls h Y hl
    unfold m_sixteenths_J54 at h
    refine lv_istore (lv' := [(5, .int y0), (0, .ref (ad 0)), (1, .int x1), (2, .int x2), (3, .int x3)]) X.1 X.2.1 (dck_at da_X12_sixteenths 29 rfl) hl (by decide) rfl (fun ls hl => ?_)
    refine lv_aload_n X.1 X.2.1 (dck_at da_X12_sixteenths 30 rfl) rfl (lv_at hl 1 rfl) ?_
    refine gr_getR X G Y fk_RX12_13 clM_0 rfl (dck_at da_X12_sixteenths 31 rfl) ?_
    refine lv_iload_n X.1 X.2.1 (dck_at da_X12_sixteenths 32 rfl) rfl (lv_at hl 3 rfl) ?_
    obtain ⟨hin, h⟩ := gI_if h
    refine gr_iald X G Y clM_2 hin (dck_at da_X12_sixteenths 33 rfl) ?_
    refine lv_iconst X.1 X.2.1 (dck_at da_X12_sixteenths 34 rfl) ki_2 ?_
    refine lv_icmp_eq (tgt := 76) X.1 X.2.1 (dck_at da_X12_sixteenths 35 rfl) rfl (fun c => ?_) (fun c => ?_)
    · have h := gI_pos h c
      exact b76 x1 x3 y0 s0 _ _ _ h Y (lv_sub hl [2, 4, 0] rfl)
    · have h := gI_neg h c
      refine lv_aload_n X.1 X.2.1 (dck_at da_X12_sixteenths 36 rfl) rfl (lv_at hl 1 rfl) ?_
      refine gr_getR X G Y fk_RX12_13 clM_0 rfl (dck_at da_X12_sixteenths 37 rfl) ?_
      refine lv_iload_n X.1 X.2.1 (dck_at da_X12_sixteenths 38 rfl) rfl (lv_at hl 3 rfl) ?_
      obtain ⟨hin, h⟩ := gI_if h
      refine gr_iald X G Y clM_2 hin (dck_at da_X12_sixteenths 39 rfl) ?_
      refine lv_iconst X.1 X.2.1 (dck_at da_X12_sixteenths 40 rfl) ki_5 ?_
      refine lv_icmp_ne (tgt := 80) X.1 X.2.1 (dck_at da_X12_sixteenths 41 rfl) rfl (fun c => ?_) (fun c => ?_)
      · have h := gI_neg h c
        refine lv_iconst X.1 X.2.1 (dck_at da_X12_sixteenths 44 rfl) ki_0 ?_
        exact b81 x1 x3 y0 (0 : Int32) s0 _ _ _ h Y (lv_sub hl [2, 4, 0] rfl)
      · have h := gI_pos h c
        exact b76 x1 x3 y0 s0 _ _ _ h Y (lv_sub hl [2, 4, 0] rfl)
  have b52 : ∀ (x1 : Int32) (x2 : Int32) (x3 : Int32) (x5 : Int32) (s0 : St) (H : Heap) (locs : List Loc) (ls : Array Slot), m_sixteenths_J52 F  x1 x2 x3 x5 s0 = some (ρ, σ') → gY shM D cy ad A s0 s H locs → lv_has ls 7 [(0, .ref (ad 0)), (1, .int x1), (2, .int x2), (3, .int x3), (5, .int x5)] → W p l e (grm 2) s m args below meth c H locs 0 0 (MQ below (va_Qi (fun (q : Int32) (_ : Unit) => q = ρ) (fun _ t => va_P D vwCl (gWl shM cy ad σ') t.heap) A) args s 0 0 A) (F0 m 52 ls []) := by
    intro x1 x2 x3 x5 s0 H locs ls h Y hl
    unfold m_sixteenths_J52 at h
    refine lv_iload X.1 X.2.1 (dck_at da_X12_sixteenths 28 rfl) (lv_at hl 4 rfl) ?_
    exact b54 x1 x2 x3 x5 s0 _ _ _ h Y (lv_sub hl [0, 1, 2, 3] rfl)
  have b45 : ∀ (x1 : Int32) (x2 : Int32) (x3 : Int32) (x5 : Int32) (s0 : St) (H : Heap) (locs : List Loc) (ls : Array Slot), m_sixteenths_J45 F  x1 x2 x3 x5 s0 = some (ρ, σ') → gY shM D cy ad A s0 s H locs → lv_has ls 7 [(0, .ref (ad 0)), (1, .int x1), (2, .int x2), (3, .int x3), (5, .int x5)] → W p l e (grm 2) s m args below meth c H locs 0 0 (MQ below (va_Qi (fun (q : Int32) (_ : Unit) => q = ρ) (fun _ t => va_P D vwCl (gWl shM cy ad σ') t.heap) A) args s 0 0 A) (F0 m 45 ls []) := by
    intro x1 x2 x3 x5 s0 H locs ls h Y hl
    unfold m_sixteenths_J45 at h
    refine lv_iload X.1 X.2.1 (dck_at da_X12_sixteenths 24 rfl) (lv_at hl 4 rfl) ?_
    refine lv_iconst X.1 X.2.1 (dck_at da_X12_sixteenths 25 rfl) ki_2 ?_
    refine lv_idiv X.1 X.2.1 (dck_at da_X12_sixteenths 26 rfl) (by decide) ?_
    refine lv_goto (tgt := 54) X.1 X.2.1 (dck_at da_X12_sixteenths 27 rfl) rfl ?_
    exact b54 x1 x2 x3 (x5 / (2 : Int32)) s0 _ _ _ h Y (lv_sub hl [0, 1, 2, 3] rfl)
  have b28 : ∀ (x1 : Int32) (x2 : Int32) (x3 : Int32) (x4 : Int32) (x5 : Int32) (s0 : St) (H : Heap) (locs : List Loc) (ls : Array Slot), m_sixteenths_J28 F  x1 x2 x3 x4 x5 s0 = some (ρ, σ') → gY shM D cy ad A s0 s H locs → lv_has ls 7 [(0, .ref (ad 0)), (1, .int x1), (2, .int x2), (3, .int x3), (4, .int x4), (5, .int x5)] → W p l e (grm 2) s m args below meth c H locs 0 0 (MQ below (va_Qi (fun (q : Int32) (_ : Unit) => q = ρ) (fun _ t => va_P D vwCl (gWl shM cy ad σ') t.heap) A) args s 0 0 A) (F0 m 28 ls []) := by
    intro x1 x2 x3 x4 x5 s0 H locs ls h Y hl
    unfold m_sixteenths_J28 at h
    refine lv_iload_n X.1 X.2.1 (dck_at da_X12_sixteenths 15 rfl) rfl (lv_at hl 1 rfl) ?_
    refine lv_iconst X.1 X.2.1 (dck_at da_X12_sixteenths 16 rfl) ki_1 ?_
    refine lv_icmp_ne (tgt := 52) X.1 X.2.1 (dck_at da_X12_sixteenths 17 rfl) rfl (fun c => ?_) (fun c => ?_)
    · have h := gI_neg h c
      exact b52 x1 x2 x3 x5 s0 _ _ _ h Y (lv_sub hl [0, 1, 2, 3, 5] rfl)
    · have h := gI_pos h c
      refine lv_iload X.1 X.2.1 (dck_at da_X12_sixteenths 18 rfl) (lv_at hl 4 rfl) ?_
      refine lv_aload_n X.1 X.2.1 (dck_at da_X12_sixteenths 19 rfl) rfl (lv_at hl 0 rfl) ?_
      refine gr_getR X G Y fk_RX12_22 clM_0 rfl (dck_at da_X12_sixteenths 20 rfl) ?_
      refine lv_bipush X.1 X.2.1 (dck_at da_X12_sixteenths 21 rfl) kb_9 ?_
      obtain ⟨hin, h⟩ := gI_if h
      refine gr_iald X G Y clM_5 hin (dck_at da_X12_sixteenths 22 rfl) ?_
      refine lv_icmp_lt (tgt := 52) X.1 X.2.1 (dck_at da_X12_sixteenths 23 rfl) rfl (fun c => ?_) (fun c => ?_)
      · have h := gI_pos h c
        exact b52 x1 x2 x3 x5 s0 _ _ _ h Y (lv_sub hl [0, 1, 2, 3, 5] rfl)
      · have h := gI_neg h c
        exact b45 x1 x2 x3 x5 s0 _ _ _ h Y (lv_sub hl [0, 1, 2, 3, 5] rfl)
  unfold m_sixteenths at h
  refine lv_iload_n X.1 X.2.1 (dck_at da_X12_sixteenths 0 rfl) rfl (lv_at hl 1 rfl) ?_
  refine lv_aload_n X.1 X.2.1 (dck_at da_X12_sixteenths 1 rfl) rfl (lv_at hl 0 rfl) ?_
  refine gr_getR X G Y fk_RX12_13 clM_0 rfl (dck_at da_X12_sixteenths 2 rfl) ?_
  refine lv_iload_n X.1 X.2.1 (dck_at da_X12_sixteenths 3 rfl) rfl (lv_at hl 2 rfl) ?_
  obtain ⟨hin, h⟩ := gI_if h
  refine gr_iald X G Y clM_2 hin (dck_at da_X12_sixteenths 4 rfl) ?_
  obtain ⟨r1, s1, hc, h⟩ := gB2_some h
  refine gr_backi Y (gr_runS (as := [.int a1, .int (s0.1 2 (a2).toNatClampNeg)]) (rest := []) X G Y (ok_m_plain hc) cs_RX12_246 ⟨Nat.le_of_ble_eq_true rfl, Nat.le_of_ble_eq_true rfl⟩ rfl hl.1 (Nat.le_of_ble_eq_true rfl) (dck_at da_X12_sixteenths 5 rfl)) (fun H locs Y => ?_)
  refine lv_istore (lv' := [(5, .int r1), (0, .ref (ad 0)), (1, .int a1), (2, .int a2), (3, .int a3), (4, .int a4)]) X.1 X.2.1 (dck_at da_X12_sixteenths 6 rfl) hl (by decide) rfl (fun ls hl => ?_)
  refine lv_iload_n X.1 X.2.1 (dck_at da_X12_sixteenths 7 rfl) rfl (lv_at hl 2 rfl) ?_
  refine lv_if_ne (tgt := 28) X.1 X.2.1 (dck_at da_X12_sixteenths 8 rfl) rfl (fun c => ?_) (fun c => ?_)
  · have h := gI_neg h c
    exact b28 a1 a2 a3 a4 r1 s1 _ _ _ h Y (lv_sub hl [1, 2, 3, 4, 5, 0] rfl)
  · have h := gI_pos h c
    refine lv_iload X.1 X.2.1 (dck_at da_X12_sixteenths 9 rfl) (lv_at hl 5 rfl) ?_
    refine lv_aload_n X.1 X.2.1 (dck_at da_X12_sixteenths 10 rfl) rfl (lv_at hl 1 rfl) ?_
    refine gr_getR X G Y fk_RX12_22 clM_0 rfl (dck_at da_X12_sixteenths 11 rfl) ?_
    refine lv_bipush X.1 X.2.1 (dck_at da_X12_sixteenths 12 rfl) kb_8 ?_
    obtain ⟨hin, h⟩ := gI_if h
    refine gr_iald X G Y clM_5 hin (dck_at da_X12_sixteenths 13 rfl) ?_
    refine lv_icmp_ge (tgt := 45) X.1 X.2.1 (dck_at da_X12_sixteenths 14 rfl) rfl (fun c => ?_) (fun c => ?_)
    · have h := gI_pos h c
      exact b45 a1 a2 a3 r1 s1 _ _ _ h Y (lv_sub hl [1, 2, 3, 4, 0] rfl)
    · have h := gI_neg h c
      exact b28 a1 a2 a3 a4 r1 s1 _ _ _ h Y (lv_sub hl [1, 2, 3, 4, 5, 0] rfl)
set_option maxRecDepth 100000 in
set_option maxHeartbeats 4000000 in
theorem ok_m_isSort {l : Launch} {D : va_G} {cy : Nat → ClassId} {ad sa : Nat → Nat} {A : Nat → Prop} {F : Nat} {a0 : Int32} {s0 : St} {ρ : Int32} {σ' : St} (h : m_isSort F a0 s0 = some (ρ, σ')) : gMi l shM D cy ad sa A yX12_isSort cX12_isSort 1 (some .boolean) 2 [.int a0] s0 ρ σ' := by
  refine gM_of (by decide) (Nat.le_of_ble_eq_true rfl) ?_
  intro p e s m args below meth c ls X G Y hr hlk hl
  have hl : lv_has ls 1 [(0, .int a0)] := hl
  unfold m_isSort at h
  refine lv_iload_n X.1 X.2.1 (dck_at da_X12_isSort 0 rfl) rfl (lv_at hl 0 rfl) ?_
  refine lv_i2l (v := (a0).toInt64) X.1 X.2.1 (dck_at da_X12_isSort 1 rfl) rfl ?_
  refine lv_lconst (v := 0) X.1 X.2.1 (dck_at da_X12_isSort 2 rfl) rfl ?_
  refine lv_ldc2 X.1 X.2.1 X.2.2.2.1 (X.2.2.2.2 _ wm_1323) (dck_at da_X12_isSort 3 rfl) ?_
  obtain ⟨r1, s1, hc, h⟩ := gB2_some h
  refine gr_backi Y (gr_runS (as := [.long ((a0).toInt64), .long (0 : Int64), .long (3 : Int64)]) (rest := []) X G Y (ok_m_in hc) cs_RX12_126 ⟨Nat.le_of_ble_eq_true rfl, Nat.le_of_ble_eq_true rfl⟩ rfl hl.1 (Nat.le_of_ble_eq_true rfl) (dck_at da_X12_isSort 4 rfl)) (fun H locs Y => ?_)
  obtain ⟨hz, h⟩ := gI_if h
  exact gr_iretO X Y h hr (gz_nar hz) hlk (dck_at da_X12_isSort 5 rfl)
set_option maxRecDepth 100000 in
set_option maxHeartbeats 4000000 in
theorem ok_m_sees {l : Launch} {D : va_G} {cy : Nat → ClassId} {ad sa : Nat → Nat} {A : Nat → Prop} {F : Nat} {a1 : Int32} {a2 : Int32} {a3 : Int32} {s0 : St} {ρ : Int32} {σ' : St} (h : m_sees F a1 a2 a3 s0 = some (ρ, σ')) : gMi l shM D cy ad sa A yX12_sees cX12_sees 4 (some .int) 3 [.ref (ad 0), .int a1, .int a2, .int a3] s0 ρ σ' := by
  refine gM_of (by decide) (Nat.le_of_ble_eq_true rfl) ?_
  intro p e s m args below meth c ls X G Y hr hlk hl
  have hl : lv_has ls 4 [(0, .ref (ad 0)), (1, .int a1), (2, .int a2), (3, .int a3)] := hl
  have b24 : ∀  (s0 : St) (H : Heap) (locs : List Loc) (ls : Array Slot), m_sees_J24 F  s0 = some (ρ, σ') → gY shM D cy ad A s0 s H locs → lv_has ls 4 [(0, .ref (ad 0))] → W p l e (grm 3) s m args below meth c H locs 0 0 (MQ below (va_Qi (fun (q : Int32) (_ : Unit) => q = ρ) (fun _ t => va_P D vwCl (gWl shM cy ad σ') t.heap) A) args s 0 0 A) (F0 m 24 ls []) := by
    intro s0 H locs ls h Y hl
    unfold m_sees_J24 at h
    refine lv_aload_n X.1 X.2.1 (dck_at da_X12_sees 12 rfl) rfl (lv_at hl 0 rfl) ?_
    refine lv_iconst X.1 X.2.1 (dck_at da_X12_sees 13 rfl) ki_m1 ?_
    obtain ⟨r1, s1, hc, h⟩ := gB2_some h
    refine gr_backi Y (gr_runV (as := [.int (-1 : Int32)]) (rest := []) X G Y (ok_m_tells hc) cv_RX12_130 clM_0 ⟨Nat.le_of_ble_eq_true rfl, Nat.le_of_ble_eq_true rfl⟩ rfl hl.1 (Nat.le_of_ble_eq_true rfl) (dck_at da_X12_sees 14 rfl)) (fun H locs Y => ?_)
    exact gr_iretO X Y h hr rfl hlk (dck_at da_X12_sees 15 rfl)
  have b59 : ∀ (y1 : Int32) (y2 : Int32) (y3 : Int32) (s0 : St) (H : Heap) (locs : List Loc) (ls : Array Slot), m_sees_J59 F  y1 y2 y3 s0 = some (ρ, σ') → gY shM D cy ad A s0 s H locs → lv_has ls 4 [(0, .ref (ad 0))] → W p l e (grm 3) s m args below meth c H locs 0 0 (MQ below (va_Qi (fun (q : Int32) (_ : Unit) => q = ρ) (fun _ t => va_P D vwCl (gWl shM cy ad σ') t.heap) A) args s 0 0 A) (F0 m 59 ls [.int y3, .int y2, .int y1, .ref (ad 0)]) := by
    intro y1 y2 y3 s0 H locs ls h Y hl
    unfold m_sees_J59 at h
    refine lv_aload_n X.1 X.2.1 (dck_at da_X12_sees 32 rfl) rfl (lv_at hl 0 rfl) ?_
    refine gr_getI X G Y fk_RX12_107 clM_0 rfl (dck_at da_X12_sees 33 rfl) ?_
    obtain ⟨r2, s2, hc, h⟩ := gB2_some h
    refine gr_backi Y (gr_runV (as := [.int y1, .int y2, .int y3, .int (s0.1 0 13)]) (rest := []) X G Y (ok_m_sixteenths hc) cv_RX12_249 clM_0 ⟨Nat.le_of_ble_eq_true rfl, Nat.le_of_ble_eq_true rfl⟩ rfl hl.1 (Nat.le_of_ble_eq_true rfl) (dck_at da_X12_sees 34 rfl)) (fun H locs Y => ?_)
    exact gr_iretO X Y h hr rfl hlk (dck_at da_X12_sees 35 rfl)
  unfold m_sees at h
  refine lv_iload_n X.1 X.2.1 (dck_at da_X12_sees 0 rfl) rfl (lv_at hl 1 rfl) ?_
  obtain ⟨r3, s3, hc, h⟩ := gB2_some h
  refine gr_backi Y (gr_runS (as := [.int a1]) (rest := []) X G Y (ok_m_isSort hc) cs_RX12_255 ⟨Nat.le_of_ble_eq_true rfl, Nat.le_of_ble_eq_true rfl⟩ rfl hl.1 (Nat.le_of_ble_eq_true rfl) (dck_at da_X12_sees 1 rfl)) (fun H locs Y => ?_)
  refine lv_if_eq (tgt := 24) X.1 X.2.1 (dck_at da_X12_sees 2 rfl) rfl (fun c => ?_) (fun c => ?_)
  · have h := gI_pos h c
    exact b24 s3 _ _ _ h Y (lv_sub hl [0] rfl)
  · have h := gI_neg h c
    refine lv_iload_n X.1 X.2.1 (dck_at da_X12_sees 3 rfl) rfl (lv_at hl 2 rfl) ?_
    obtain ⟨r4, s4, hc, h⟩ := gB2_some h
    refine gr_backi Y (gr_runS (as := [.int a2]) (rest := []) X G Y (ok_m_isCell hc) cs_RX12_138 ⟨Nat.le_of_ble_eq_true rfl, Nat.le_of_ble_eq_true rfl⟩ rfl hl.1 (Nat.le_of_ble_eq_true rfl) (dck_at da_X12_sees 4 rfl)) (fun H locs Y => ?_)
    refine lv_if_eq (tgt := 24) X.1 X.2.1 (dck_at da_X12_sees 5 rfl) rfl (fun c => ?_) (fun c => ?_)
    · have h := gI_pos h c
      exact b24 s4 _ _ _ h Y (lv_sub hl [0] rfl)
    · have h := gI_neg h c
      refine lv_iload_n X.1 X.2.1 (dck_at da_X12_sees 6 rfl) rfl (lv_at hl 3 rfl) ?_
      refine lv_i2l (v := (a3).toInt64) X.1 X.2.1 (dck_at da_X12_sees 7 rfl) rfl ?_
      refine lv_lconst (v := 0) X.1 X.2.1 (dck_at da_X12_sees 8 rfl) rfl ?_
      refine lv_lconst (v := 1) X.1 X.2.1 (dck_at da_X12_sees 9 rfl) rfl ?_
      obtain ⟨r5, s5, hc, h⟩ := gB2_some h
      refine gr_backi Y (gr_runS (as := [.long ((a3).toInt64), .long (0 : Int64), .long (1 : Int64)]) (rest := []) X G Y (ok_m_in hc) cs_RX12_126 ⟨Nat.le_of_ble_eq_true rfl, Nat.le_of_ble_eq_true rfl⟩ rfl hl.1 (Nat.le_of_ble_eq_true rfl) (dck_at da_X12_sees 10 rfl)) (fun H locs Y => ?_)
      refine lv_if_ne (tgt := 30) X.1 X.2.1 (dck_at da_X12_sees 11 rfl) rfl (fun c => ?_) (fun c => ?_)
      · have h := gI_neg h c
        refine lv_aload_n X.1 X.2.1 (dck_at da_X12_sees 16 rfl) rfl (lv_at hl 0 rfl) ?_
        refine gr_getI X G Y fk_RX12_107 clM_0 rfl (dck_at da_X12_sees 17 rfl) ?_
        refine lv_if_ge (tgt := 46) X.1 X.2.1 (dck_at da_X12_sees 18 rfl) rfl (fun c => ?_) (fun c => ?_)
        · have h := gI_pos h c
          refine lv_aload_n X.1 X.2.1 (dck_at da_X12_sees 23 rfl) rfl (lv_at hl 0 rfl) ?_
          refine lv_iload_n X.1 X.2.1 (dck_at da_X12_sees 24 rfl) rfl (lv_at hl 1 rfl) ?_
          refine lv_iload_n X.1 X.2.1 (dck_at da_X12_sees 25 rfl) rfl (lv_at hl 2 rfl) ?_
          refine lv_iload_n X.1 X.2.1 (dck_at da_X12_sees 26 rfl) rfl (lv_at hl 3 rfl) ?_
          refine lv_iconst X.1 X.2.1 (dck_at da_X12_sees 27 rfl) ki_1 ?_
          refine lv_icmp_ne (tgt := 58) X.1 X.2.1 (dck_at da_X12_sees 28 rfl) rfl (fun c => ?_) (fun c => ?_)
          · have h := gI_neg h c
            refine lv_iconst X.1 X.2.1 (dck_at da_X12_sees 31 rfl) ki_0 ?_
            exact b59 a1 a2 (0 : Int32) s5 _ _ _ h Y (lv_sub hl [0] rfl)
          · have h := gI_pos h c
            refine lv_iconst X.1 X.2.1 (dck_at da_X12_sees 29 rfl) ki_1 ?_
            refine lv_goto (tgt := 59) X.1 X.2.1 (dck_at da_X12_sees 30 rfl) rfl ?_
            exact b59 a1 a2 (1 : Int32) s5 _ _ _ h Y (lv_sub hl [0] rfl)
        · have h := gI_neg h c
          refine lv_aload_n X.1 X.2.1 (dck_at da_X12_sees 19 rfl) rfl (lv_at hl 0 rfl) ?_
          refine lv_bipush X.1 X.2.1 (dck_at da_X12_sees 20 rfl) kb_m2 ?_
          obtain ⟨r6, s6, hc, h⟩ := gB2_some h
          refine gr_backi Y (gr_runV (as := [.int (-2 : Int32)]) (rest := []) X G Y (ok_m_tells hc) cv_RX12_130 clM_0 ⟨Nat.le_of_ble_eq_true rfl, Nat.le_of_ble_eq_true rfl⟩ rfl hl.1 (Nat.le_of_ble_eq_true rfl) (dck_at da_X12_sees 21 rfl)) (fun H locs Y => ?_)
          refine lv_goto (tgt := 66) X.1 X.2.1 (dck_at da_X12_sees 22 rfl) rfl ?_
          exact gr_iretO X Y h hr rfl hlk (dck_at da_X12_sees 35 rfl)
      · have h := gI_pos h c
        exact b24 s5 _ _ _ h Y (lv_sub hl [0] rfl)
set_option maxRecDepth 100000 in
set_option maxHeartbeats 4000000 in
theorem ok_m_search {l : Launch} {D : va_G} {cy : Nat → ClassId} {ad sa : Nat → Nat} {A : Nat → Prop} {F : Nat} {a1 : Int32} {a2 : Int32} {s0 : St} {ρ : Int32} {σ' : St} (h : m_search F a1 a2 s0 = some (ρ, σ')) : gMi l shM D cy ad sa A yX12_search cX12_search 6 (some .int) 3 [.ref (ad 0), .int a1, .int a2] s0 ρ σ' := by
  refine gM_of (by decide) (Nat.le_of_ble_eq_true rfl) ?_
  intro p e s m args below meth c ls X G Y hr hlk hl
  have hl : lv_has ls 6 [(0, .ref (ad 0)), (1, .int a1), (2, .int a2)] := hl
  have b14 : ∀  (s0 : St) (H : Heap) (locs : List Loc) (ls : Array Slot), m_search_J14 F  s0 = some (ρ, σ') → gY shM D cy ad A s0 s H locs → lv_has ls 6 [(0, .ref (ad 0))] → W p l e (grm 3) s m args below meth c H locs 0 0 (MQ below (va_Qi (fun (q : Int32) (_ : Unit) => q = ρ) (fun _ t => va_P D vwCl (gWl shM cy ad σ') t.heap) A) args s 0 0 A) (F0 m 14 ls []) := by
    intro s0 H locs ls h Y hl
    unfold m_search_J14 at h
    refine lv_aload_n X.1 X.2.1 (dck_at da_X12_search 6 rfl) rfl (lv_at hl 0 rfl) ?_
    refine lv_iconst X.1 X.2.1 (dck_at da_X12_search 7 rfl) ki_m1 ?_
    obtain ⟨r1, s1, hc, h⟩ := gB2_some h
    refine gr_backi Y (gr_runV (as := [.int (-1 : Int32)]) (rest := []) X G Y (ok_m_tells hc) cv_RX12_130 clM_0 ⟨Nat.le_of_ble_eq_true rfl, Nat.le_of_ble_eq_true rfl⟩ rfl hl.1 (Nat.le_of_ble_eq_true rfl) (dck_at da_X12_search 8 rfl)) (fun H locs Y => ?_)
    exact gr_iretO X Y h hr rfl hlk (dck_at da_X12_search 9 rfl)
  have b55 : ∀ n : Nat, ∀ (x1 : Int32) (x2 : Int32) (x3 : Int64) (x5 : Int32) (s0 : St) (H : Heap) (locs : List Loc) (ls : Array Slot), m_search_L55 F  n x1 x2 x3 x5 s0 = some (ρ, σ') → gY shM D cy ad A s0 s H locs → lv_has ls 6 [(0, .ref (ad 0)), (1, .int x1), (2, .int x2), (3, .long x3), (5, .int x5)] → W p l e (grm 3) s m args below meth c H locs 0 0 (MQ below (va_Qi (fun (q : Int32) (_ : Unit) => q = ρ) (fun _ t => va_P D vwCl (gWl shM cy ad σ') t.heap) A) args s 0 0 A) (F0 m 55 ls []) := by
    intro n
    induction n with
    | zero => intro x1 x2 x3 x5 s0 H locs ls h Y hl; exact (gnone h).elim
    | succ n hk55 =>
      have e : m_search_L55 F  (n + 1) = m_search_L55b F  (m_search_L55 F  n) := rfl
      rw [e]; clear e
      generalize m_search_L55 F  n = k55 at hk55 ⊢
      have b98 : ∀ (x1 : Int32) (x2 : Int32) (x3 : Int64) (x5 : Int32) (y1 : Int32) (y2 : Int64) (y3 : Int64) (y5 : Int32) (y6 : Int32) (y7 : Int32) (s0 : St) (H : Heap) (locs : List Loc) (ls : Array Slot), m_search_J98 F k55 x1 x2 x3 x5 y1 y2 y3 y5 y6 y7 s0 = some (ρ, σ') → gY shM D cy ad A s0 s H locs → lv_has ls 6 [(0, .ref (ad 0)), (1, .int x1), (2, .int x2), (3, .long x3), (5, .int x5)] → W p l e (grm 3) s m args below meth c H locs 0 0 (MQ below (va_Qi (fun (q : Int32) (_ : Unit) => q = ρ) (fun _ t => va_P D vwCl (gWl shM cy ad σ') t.heap) A) args s 0 0 A) (F0 m 98 ls [.int y7, .int y6, .int y5, .ref (ad 0), .long y3, .long y2, .int y1, .ref (ad 9)]) := by
        intro x1 x2 x3 x5 y1 y2 y3 y5 y6 y7 s0 H locs ls h Y hl
        unfold m_search_J98 at h
        refine lv_aload_n X.1 X.2.1 (dck_at da_X12_search 59 rfl) rfl (lv_at hl 0 rfl) ?_
        refine gr_getI X G Y fk_RX12_107 clM_0 rfl (dck_at da_X12_search 60 rfl) ?_
        obtain ⟨r2, s2, hc, h⟩ := gB2_some h
        refine gr_backi Y (gr_runV (as := [.int y5, .int y6, .int y7, .int (s0.1 0 13)]) (rest := [.long y3, .long y2, .int y1, .ref (ad 9)]) X G Y (ok_m_sixteenths hc) cv_RX12_249 clM_0 ⟨Nat.le_of_ble_eq_true rfl, Nat.le_of_ble_eq_true rfl⟩ rfl hl.1 (Nat.le_of_ble_eq_true rfl) (dck_at da_X12_search 61 rfl)) (fun H locs Y => ?_)
        refine lv_i2l (v := (r2).toInt64) X.1 X.2.1 (dck_at da_X12_search 62 rfl) rfl ?_
        refine lv_lmul X.1 X.2.1 (dck_at da_X12_search 63 rfl) ?_
        refine lv_ldc2 X.1 X.2.1 X.2.2.2.1 (X.2.2.2.2 _ wm_1442) (dck_at da_X12_search 64 rfl) ?_
        refine lv_ldiv X.1 X.2.1 (dck_at da_X12_search 65 rfl) (by decide) ?_
        refine lv_lsub X.1 X.2.1 (dck_at da_X12_search 66 rfl) ?_
        obtain ⟨hin, h⟩ := gI_if h
        refine gr_last X G Y clM_9 hin (dck_at da_X12_search 67 rfl) (fun H locs Y => ?_)
        refine lv_iinc (v := x5 + (1 : Int32)) (lv' := [(5, .int (x5 + (1 : Int32))), (0, .ref (ad 0)), (1, .int x1), (2, .int x2), (3, .long x3)]) X.1 X.2.1 (dck_at da_X12_search 68 rfl) hl (k := 4) rfl (congrArg (HAdd.hAdd _) ki_1) (by decide) rfl (fun ls hl => ?_)
        refine lv_goto (tgt := 55) X.1 X.2.1 (dck_at da_X12_search 69 rfl) rfl ?_
        exact hk55 x1 x2 x3 (x5 + (1 : Int32)) (sJ s2 9 (y1).toNatClampNeg (y2 - ((y3 * ((r2).toInt64)) / (16 : Int64)))) _ _ _ h Y (lv_sub hl [1, 2, 3, 4, 0] rfl)
      intro x1 x2 x3 x5 s0 H locs ls h Y hl
      unfold m_search_L55b at h
      refine lv_iload X.1 X.2.1 (dck_at da_X12_search 30 rfl) (lv_at hl 4 rfl) ?_
      refine lv_iconst X.1 X.2.1 (dck_at da_X12_search 31 rfl) ki_5 ?_
      refine lv_icmp_ge (tgt := 119) X.1 X.2.1 (dck_at da_X12_search 32 rfl) rfl (fun c => ?_) (fun c => ?_)
      · have h := gI_pos h c
        refine lv_aload_n X.1 X.2.1 (dck_at da_X12_search 70 rfl) rfl (lv_at hl 0 rfl) ?_
        refine gr_getR X G Y fk_RX12_19 clM_0 rfl (dck_at da_X12_search 71 rfl) ?_
        refine lv_iload_n X.1 X.2.1 (dck_at da_X12_search 72 rfl) rfl (lv_at hl 2 rfl) ?_
        refine lv_dup2_11 X.1 X.2.1 (dck_at da_X12_search 73 rfl) rfl rfl ?_
        obtain ⟨hin, h⟩ := gI_if h
        refine gr_iald X G Y clM_4 hin (dck_at da_X12_search 74 rfl) ?_
        refine lv_iconst X.1 X.2.1 (dck_at da_X12_search 75 rfl) ki_1 ?_
        refine lv_iadd X.1 X.2.1 (dck_at da_X12_search 76 rfl) ?_
        obtain ⟨hin, h⟩ := gI_if h
        refine gr_iast X G Y clM_4 hin (dck_at da_X12_search 77 rfl) (fun H locs Y => ?_)
        refine lv_lload_n X.1 X.2.1 (dck_at da_X12_search 78 rfl) rfl (lv_at hl 3 rfl) ?_
        refine lv_aload_n X.1 X.2.1 (dck_at da_X12_search 79 rfl) rfl (lv_at hl 0 rfl) ?_
        obtain ⟨r3, s3, hc, h⟩ := gB2_some h
        refine gr_backl Y (gr_runV (as := []) (rest := [.long x3]) X G Y (ok_m_all hc) cv_RX12_218 clM_0 ⟨Nat.le_of_ble_eq_true rfl, Nat.le_of_ble_eq_true rfl⟩ rfl hl.1 (Nat.le_of_ble_eq_true rfl) (dck_at da_X12_search 80 rfl)) (fun H locs Y => ?_)
        refine lv_lsub X.1 X.2.1 (dck_at da_X12_search 81 rfl) ?_
        refine lv_ldc2 X.1 X.2.1 X.2.2.2.1 (X.2.2.2.2 _ wm_1443) (dck_at da_X12_search 82 rfl) ?_
        refine lv_lmul X.1 X.2.1 (dck_at da_X12_search 83 rfl) ?_
        refine lv_lload_n X.1 X.2.1 (dck_at da_X12_search 84 rfl) rfl (lv_at hl 3 rfl) ?_
        obtain ⟨hz, h⟩ := gI_nz h
        refine lv_ldiv X.1 X.2.1 (dck_at da_X12_search 85 rfl) hz ?_
        refine lv_l2i (v := (((x3 - r3) * (1000 : Int64)) / x3).toInt32) X.1 X.2.1 (dck_at da_X12_search 86 rfl) rfl ?_
        exact gr_iretO X Y h hr rfl hlk (dck_at da_X12_search 87 rfl)
      · have h := gI_neg h c
        refine lv_aload_n X.1 X.2.1 (dck_at da_X12_search 33 rfl) rfl (lv_at hl 0 rfl) ?_
        refine gr_getR X G Y fk_RX12_34 clM_0 rfl (dck_at da_X12_search 34 rfl) ?_
        refine lv_iconst X.1 X.2.1 (dck_at da_X12_search 35 rfl) ki_5 ?_
        refine lv_iload_n X.1 X.2.1 (dck_at da_X12_search 36 rfl) rfl (lv_at hl 2 rfl) ?_
        refine lv_imul X.1 X.2.1 (dck_at da_X12_search 37 rfl) ?_
        refine lv_iload X.1 X.2.1 (dck_at da_X12_search 38 rfl) (lv_at hl 4 rfl) ?_
        refine lv_iadd X.1 X.2.1 (dck_at da_X12_search 39 rfl) ?_
        refine lv_dup2_11 X.1 X.2.1 (dck_at da_X12_search 40 rfl) rfl rfl ?_
        obtain ⟨hin, h⟩ := gI_if h
        refine gr_lald X G Y clM_9 hin (dck_at da_X12_search 41 rfl) ?_
        refine lv_aload_n X.1 X.2.1 (dck_at da_X12_search 42 rfl) rfl (lv_at hl 0 rfl) ?_
        refine gr_getR X G Y fk_RX12_34 clM_0 rfl (dck_at da_X12_search 43 rfl) ?_
        refine lv_iconst X.1 X.2.1 (dck_at da_X12_search 44 rfl) ki_5 ?_
        refine lv_iload_n X.1 X.2.1 (dck_at da_X12_search 45 rfl) rfl (lv_at hl 2 rfl) ?_
        refine lv_imul X.1 X.2.1 (dck_at da_X12_search 46 rfl) ?_
        refine lv_iload X.1 X.2.1 (dck_at da_X12_search 47 rfl) (lv_at hl 4 rfl) ?_
        refine lv_iadd X.1 X.2.1 (dck_at da_X12_search 48 rfl) ?_
        obtain ⟨hin, h⟩ := gI_if h
        refine gr_lald X G Y clM_9 hin (dck_at da_X12_search 49 rfl) ?_
        refine lv_aload_n X.1 X.2.1 (dck_at da_X12_search 50 rfl) rfl (lv_at hl 0 rfl) ?_
        refine lv_iload_n X.1 X.2.1 (dck_at da_X12_search 51 rfl) rfl (lv_at hl 1 rfl) ?_
        refine lv_iload_n X.1 X.2.1 (dck_at da_X12_search 52 rfl) rfl (lv_at hl 2 rfl) ?_
        refine lv_iload X.1 X.2.1 (dck_at da_X12_search 53 rfl) (lv_at hl 4 rfl) ?_
        refine lv_iconst X.1 X.2.1 (dck_at da_X12_search 54 rfl) ki_4 ?_
        refine lv_icmp_ne (tgt := 97) X.1 X.2.1 (dck_at da_X12_search 55 rfl) rfl (fun c => ?_) (fun c => ?_)
        · have h := gI_neg h c
          refine lv_iconst X.1 X.2.1 (dck_at da_X12_search 58 rfl) ki_0 ?_
          exact b98 x1 x2 x3 x5 (((5 : Int32) * x2) + x5) (s0.2 9 (((5 : Int32) * x2) + x5).toNatClampNeg) (s0.2 9 (((5 : Int32) * x2) + x5).toNatClampNeg) x1 x2 (0 : Int32) s0 _ _ _ h Y (lv_sub hl [0, 1, 2, 3, 4] rfl)
        · have h := gI_pos h c
          refine lv_iconst X.1 X.2.1 (dck_at da_X12_search 56 rfl) ki_1 ?_
          refine lv_goto (tgt := 98) X.1 X.2.1 (dck_at da_X12_search 57 rfl) rfl ?_
          exact b98 x1 x2 x3 x5 (((5 : Int32) * x2) + x5) (s0.2 9 (((5 : Int32) * x2) + x5).toNatClampNeg) (s0.2 9 (((5 : Int32) * x2) + x5).toNatClampNeg) x1 x2 (1 : Int32) s0 _ _ _ h Y (lv_sub hl [0, 1, 2, 3, 4] rfl)
  unfold m_search at h
  refine lv_iload_n X.1 X.2.1 (dck_at da_X12_search 0 rfl) rfl (lv_at hl 1 rfl) ?_
  obtain ⟨r4, s4, hc, h⟩ := gB2_some h
  refine gr_backi Y (gr_runS (as := [.int a1]) (rest := []) X G Y (ok_m_isSort hc) cs_RX12_255 ⟨Nat.le_of_ble_eq_true rfl, Nat.le_of_ble_eq_true rfl⟩ rfl hl.1 (Nat.le_of_ble_eq_true rfl) (dck_at da_X12_search 1 rfl)) (fun H locs Y => ?_)
  refine lv_if_eq (tgt := 14) X.1 X.2.1 (dck_at da_X12_search 2 rfl) rfl (fun c => ?_) (fun c => ?_)
  · have h := gI_pos h c
    exact b14 s4 _ _ _ h Y (lv_sub hl [0] rfl)
  · have h := gI_neg h c
    refine lv_iload_n X.1 X.2.1 (dck_at da_X12_search 3 rfl) rfl (lv_at hl 2 rfl) ?_
    obtain ⟨r5, s5, hc, h⟩ := gB2_some h
    refine gr_backi Y (gr_runS (as := [.int a2]) (rest := []) X G Y (ok_m_isCell hc) cs_RX12_138 ⟨Nat.le_of_ble_eq_true rfl, Nat.le_of_ble_eq_true rfl⟩ rfl hl.1 (Nat.le_of_ble_eq_true rfl) (dck_at da_X12_search 4 rfl)) (fun H locs Y => ?_)
    refine lv_if_ne (tgt := 20) X.1 X.2.1 (dck_at da_X12_search 5 rfl) rfl (fun c => ?_) (fun c => ?_)
    · have h := gI_neg h c
      refine lv_aload_n X.1 X.2.1 (dck_at da_X12_search 10 rfl) rfl (lv_at hl 0 rfl) ?_
      refine gr_getI X G Y fk_RX12_107 clM_0 rfl (dck_at da_X12_search 11 rfl) ?_
      refine lv_if_ge (tgt := 34) X.1 X.2.1 (dck_at da_X12_search 12 rfl) rfl (fun c => ?_) (fun c => ?_)
      · have h := gI_pos h c
        refine lv_aload_n X.1 X.2.1 (dck_at da_X12_search 17 rfl) rfl (lv_at hl 0 rfl) ?_
        obtain ⟨r6, s6, hc, h⟩ := gB2_some h
        refine gr_backl Y (gr_runV (as := []) (rest := []) X G Y (ok_m_all hc) cv_RX12_218 clM_0 ⟨Nat.le_of_ble_eq_true rfl, Nat.le_of_ble_eq_true rfl⟩ rfl hl.1 (Nat.le_of_ble_eq_true rfl) (dck_at da_X12_search 18 rfl)) (fun H locs Y => ?_)
        refine lv_lstore_n (lv' := [(3, .long r6), (0, .ref (ad 0)), (1, .int a1), (2, .int a2)]) X.1 X.2.1 (dck_at da_X12_search 19 rfl) rfl hl (by decide) rfl (fun ls hl => ?_)
        refine lv_lload_n X.1 X.2.1 (dck_at da_X12_search 20 rfl) rfl (lv_at hl 0 rfl) ?_
        refine lv_lconst (v := 0) X.1 X.2.1 (dck_at da_X12_search 21 rfl) rfl ?_
        refine W.lcmp X.1 X.2.1 (dck_at da_X12_search 22 rfl) ?_
        refine lv_if_ne (tgt := 52) X.1 X.2.1 (dck_at da_X12_search 23 rfl) rfl (fun c => ?_) (fun c => ?_)
        · have h := gI_neg h c
          refine lv_iconst X.1 X.2.1 (dck_at da_X12_search 28 rfl) ki_0 ?_
          refine lv_istore (lv' := [(5, .int (0 : Int32)), (3, .long r6), (0, .ref (ad 0)), (1, .int a1), (2, .int a2)]) X.1 X.2.1 (dck_at da_X12_search 29 rfl) hl (by decide) rfl (fun ls hl => ?_)
          exact b55 F a1 a2 r6 (0 : Int32) s6 _ _ _ h Y (lv_sub hl [2, 3, 4, 1, 0] rfl)
        · have h := gI_pos h c
          refine lv_aload_n X.1 X.2.1 (dck_at da_X12_search 24 rfl) rfl (lv_at hl 1 rfl) ?_
          refine lv_bipush X.1 X.2.1 (dck_at da_X12_search 25 rfl) kb_m4 ?_
          obtain ⟨r7, s7, hc, h⟩ := gB2_some h
          refine gr_backi Y (gr_runV (as := [.int (-4 : Int32)]) (rest := []) X G Y (ok_m_tells hc) cv_RX12_130 clM_0 ⟨Nat.le_of_ble_eq_true rfl, Nat.le_of_ble_eq_true rfl⟩ rfl hl.1 (Nat.le_of_ble_eq_true rfl) (dck_at da_X12_search 26 rfl)) (fun H locs Y => ?_)
          exact gr_iretO X Y h hr rfl hlk (dck_at da_X12_search 27 rfl)
      · have h := gI_neg h c
        refine lv_aload_n X.1 X.2.1 (dck_at da_X12_search 13 rfl) rfl (lv_at hl 0 rfl) ?_
        refine lv_bipush X.1 X.2.1 (dck_at da_X12_search 14 rfl) kb_m2 ?_
        obtain ⟨r8, s8, hc, h⟩ := gB2_some h
        refine gr_backi Y (gr_runV (as := [.int (-2 : Int32)]) (rest := []) X G Y (ok_m_tells hc) cv_RX12_130 clM_0 ⟨Nat.le_of_ble_eq_true rfl, Nat.le_of_ble_eq_true rfl⟩ rfl hl.1 (Nat.le_of_ble_eq_true rfl) (dck_at da_X12_search 15 rfl)) (fun H locs Y => ?_)
        exact gr_iretO X Y h hr rfl hlk (dck_at da_X12_search 16 rfl)
    · have h := gI_pos h c
      exact b14 s5 _ _ _ h Y (lv_sub hl [0] rfl)
set_option maxRecDepth 100000 in
set_option maxHeartbeats 4000000 in
theorem ok_m_aliveAt {l : Launch} {D : va_G} {cy : Nat → ClassId} {ad sa : Nat → Nat} {A : Nat → Prop} {F : Nat} {a1 : Int32} {s0 : St} {ρ : Int32} {σ' : St} (h : m_aliveAt F a1 s0 = some (ρ, σ')) : gMi l shM D cy ad sa A yX12_aliveAt cX12_aliveAt 4 (some .int) 1 [.ref (ad 0), .int a1] s0 ρ σ' := by
  refine gM_of (by decide) (Nat.le_of_ble_eq_true rfl) ?_
  intro p e s m args below meth c ls X G Y hr hlk hl
  have hl : lv_has ls 4 [(0, .ref (ad 0)), (1, .int a1)] := hl
  have b54 : ∀ (y0 : Int32) (s0 : St) (H : Heap) (locs : List Loc) (ls : Array Slot), m_aliveAt_J54 F  y0 s0 = some (ρ, σ') → gY shM D cy ad A s0 s H locs → lv_has ls 4 [] → W p l e (grm 1) s m args below meth c H locs 0 0 (MQ below (va_Qi (fun (q : Int32) (_ : Unit) => q = ρ) (fun _ t => va_P D vwCl (gWl shM cy ad σ') t.heap) A) args s 0 0 A) (F0 m 54 ls [.int y0]) := by
    intro y0 s0 H locs ls h Y hl
    unfold m_aliveAt_J54 at h
    refine lv_istore_n (lv' := [(3, .int y0)]) X.1 X.2.1 (dck_at da_X12_aliveAt 33 rfl) rfl hl (by decide) rfl (fun ls hl => ?_)
    refine lv_iload_n X.1 X.2.1 (dck_at da_X12_aliveAt 34 rfl) rfl (lv_at hl 0 rfl) ?_
    refine lv_if_ge (tgt := 63) X.1 X.2.1 (dck_at da_X12_aliveAt 35 rfl) rfl (fun c => ?_) (fun c => ?_)
    · have h := gI_pos h c
      refine lv_iload_n X.1 X.2.1 (dck_at da_X12_aliveAt 38 rfl) rfl (lv_at hl 0 rfl) ?_
      exact gr_iretO X Y h hr rfl hlk (dck_at da_X12_aliveAt 39 rfl)
    · have h := gI_neg h c
      refine lv_iconst X.1 X.2.1 (dck_at da_X12_aliveAt 36 rfl) ki_0 ?_
      refine lv_goto (tgt := 64) X.1 X.2.1 (dck_at da_X12_aliveAt 37 rfl) rfl ?_
      exact gr_iretO X Y h hr rfl hlk (dck_at da_X12_aliveAt 39 rfl)
  unfold m_aliveAt at h
  refine lv_sipush X.1 X.2.1 (dck_at da_X12_aliveAt 0 rfl) ks_240 ?_
  refine lv_bipush X.1 X.2.1 (dck_at da_X12_aliveAt 1 rfl) kb_60 ?_
  refine lv_aload_n X.1 X.2.1 (dck_at da_X12_aliveAt 2 rfl) rfl (lv_at hl 0 rfl) ?_
  refine gr_getR X G Y fk_RX12_22 clM_0 rfl (dck_at da_X12_aliveAt 3 rfl) ?_
  refine lv_bipush X.1 X.2.1 (dck_at da_X12_aliveAt 4 rfl) kb_6 ?_
  obtain ⟨hin, h⟩ := gI_if h
  refine gr_iald X G Y clM_5 hin (dck_at da_X12_aliveAt 5 rfl) ?_
  refine lv_imul X.1 X.2.1 (dck_at da_X12_aliveAt 6 rfl) ?_
  refine lv_iadd X.1 X.2.1 (dck_at da_X12_aliveAt 7 rfl) ?_
  refine lv_bipush X.1 X.2.1 (dck_at da_X12_aliveAt 8 rfl) kb_20 ?_
  refine lv_aload_n X.1 X.2.1 (dck_at da_X12_aliveAt 9 rfl) rfl (lv_at hl 0 rfl) ?_
  refine gr_getR X G Y fk_RX12_22 clM_0 rfl (dck_at da_X12_aliveAt 10 rfl) ?_
  refine lv_bipush X.1 X.2.1 (dck_at da_X12_aliveAt 11 rfl) kb_7 ?_
  obtain ⟨hin, h⟩ := gI_if h
  refine gr_iald X G Y clM_5 hin (dck_at da_X12_aliveAt 12 rfl) ?_
  refine lv_imul X.1 X.2.1 (dck_at da_X12_aliveAt 13 rfl) ?_
  refine lv_isub X.1 X.2.1 (dck_at da_X12_aliveAt 14 rfl) ?_
  refine lv_istore_n (lv' := [(2, .int (((240 : Int32) + ((60 : Int32) * (s0.1 5 ((6 : Int32)).toNatClampNeg))) - ((20 : Int32) * (s0.1 5 ((7 : Int32)).toNatClampNeg)))), (0, .ref (ad 0)), (1, .int a1)]) X.1 X.2.1 (dck_at da_X12_aliveAt 15 rfl) rfl hl (by decide) rfl (fun ls hl => ?_)
  refine lv_iload_n X.1 X.2.1 (dck_at da_X12_aliveAt 16 rfl) rfl (lv_at hl 2 rfl) ?_
  refine lv_iload_n X.1 X.2.1 (dck_at da_X12_aliveAt 17 rfl) rfl (lv_at hl 0 rfl) ?_
  refine lv_icmp_gt (tgt := 37) X.1 X.2.1 (dck_at da_X12_aliveAt 18 rfl) rfl (fun c => ?_) (fun c => ?_)
  · have h := gI_pos h c
    refine lv_sipush X.1 X.2.1 (dck_at da_X12_aliveAt 21 rfl) ks_1000 ?_
    refine lv_iconst X.1 X.2.1 (dck_at da_X12_aliveAt 22 rfl) ki_2 ?_
    refine lv_aload_n X.1 X.2.1 (dck_at da_X12_aliveAt 23 rfl) rfl (lv_at hl 1 rfl) ?_
    refine gr_getR X G Y fk_RX12_22 clM_0 rfl (dck_at da_X12_aliveAt 24 rfl) ?_
    refine lv_bipush X.1 X.2.1 (dck_at da_X12_aliveAt 25 rfl) kb_7 ?_
    obtain ⟨hin, h⟩ := gI_if h
    refine gr_iald X G Y clM_5 hin (dck_at da_X12_aliveAt 26 rfl) ?_
    refine lv_iadd X.1 X.2.1 (dck_at da_X12_aliveAt 27 rfl) ?_
    refine lv_iload_n X.1 X.2.1 (dck_at da_X12_aliveAt 28 rfl) rfl (lv_at hl 2 rfl) ?_
    refine lv_iload_n X.1 X.2.1 (dck_at da_X12_aliveAt 29 rfl) rfl (lv_at hl 0 rfl) ?_
    refine lv_isub X.1 X.2.1 (dck_at da_X12_aliveAt 30 rfl) ?_
    refine lv_imul X.1 X.2.1 (dck_at da_X12_aliveAt 31 rfl) ?_
    refine lv_isub X.1 X.2.1 (dck_at da_X12_aliveAt 32 rfl) ?_
    exact b54 ((1000 : Int32) - (((2 : Int32) + (s0.1 5 ((7 : Int32)).toNatClampNeg)) * (a1 - (((240 : Int32) + ((60 : Int32) * (s0.1 5 ((6 : Int32)).toNatClampNeg))) - ((20 : Int32) * (s0.1 5 ((7 : Int32)).toNatClampNeg)))))) s0 _ _ _ h Y (lv_sub hl [] rfl)
  · have h := gI_neg h c
    refine lv_sipush X.1 X.2.1 (dck_at da_X12_aliveAt 19 rfl) ks_1000 ?_
    refine lv_goto (tgt := 54) X.1 X.2.1 (dck_at da_X12_aliveAt 20 rfl) rfl ?_
    exact b54 (1000 : Int32) s0 _ _ _ h Y (lv_sub hl [] rfl)
set_option maxRecDepth 100000 in
set_option maxHeartbeats 4000000 in
theorem ok_m_alive {l : Launch} {D : va_G} {cy : Nat → ClassId} {ad sa : Nat → Nat} {A : Nat → Prop} {F : Nat} {a1 : Int32} {s0 : St} {ρ : Int32} {σ' : St} (h : m_alive F a1 s0 = some (ρ, σ')) : gMi l shM D cy ad sa A yX12_alive cX12_alive 2 (some .int) 3 [.ref (ad 0), .int a1] s0 ρ σ' := by
  refine gM_of (by decide) (Nat.le_of_ble_eq_true rfl) ?_
  intro p e s m args below meth c ls X G Y hr hlk hl
  have hl : lv_has ls 2 [(0, .ref (ad 0)), (1, .int a1)] := hl
  unfold m_alive at h
  refine lv_iload_n X.1 X.2.1 (dck_at da_X12_alive 0 rfl) rfl (lv_at hl 1 rfl) ?_
  refine lv_i2l (v := (a1).toInt64) X.1 X.2.1 (dck_at da_X12_alive 1 rfl) rfl ?_
  refine lv_lconst (v := 0) X.1 X.2.1 (dck_at da_X12_alive 2 rfl) rfl ?_
  refine lv_ldc2 X.1 X.2.1 X.2.2.2.1 (X.2.2.2.2 _ wm_1324) (dck_at da_X12_alive 3 rfl) ?_
  obtain ⟨r1, s1, hc, h⟩ := gB2_some h
  refine gr_backi Y (gr_runS (as := [.long ((a1).toInt64), .long (0 : Int64), .long (999 : Int64)]) (rest := []) X G Y (ok_m_in hc) cs_RX12_126 ⟨Nat.le_of_ble_eq_true rfl, Nat.le_of_ble_eq_true rfl⟩ rfl hl.1 (Nat.le_of_ble_eq_true rfl) (dck_at da_X12_alive 4 rfl)) (fun H locs Y => ?_)
  refine lv_if_eq (tgt := 20) X.1 X.2.1 (dck_at da_X12_alive 5 rfl) rfl (fun c => ?_) (fun c => ?_)
  · have h := gI_pos h c
    refine lv_aload_n X.1 X.2.1 (dck_at da_X12_alive 10 rfl) rfl (lv_at hl 0 rfl) ?_
    refine lv_iconst X.1 X.2.1 (dck_at da_X12_alive 11 rfl) ki_m1 ?_
    obtain ⟨r2, s2, hc, h⟩ := gB2_some h
    refine gr_backi Y (gr_runV (as := [.int (-1 : Int32)]) (rest := []) X G Y (ok_m_tells hc) cv_RX12_130 clM_0 ⟨Nat.le_of_ble_eq_true rfl, Nat.le_of_ble_eq_true rfl⟩ rfl hl.1 (Nat.le_of_ble_eq_true rfl) (dck_at da_X12_alive 12 rfl)) (fun H locs Y => ?_)
    exact gr_iretO X Y h hr rfl hlk (dck_at da_X12_alive 13 rfl)
  · have h := gI_neg h c
    refine lv_aload_n X.1 X.2.1 (dck_at da_X12_alive 6 rfl) rfl (lv_at hl 0 rfl) ?_
    refine lv_iload_n X.1 X.2.1 (dck_at da_X12_alive 7 rfl) rfl (lv_at hl 1 rfl) ?_
    obtain ⟨r3, s3, hc, h⟩ := gB2_some h
    refine gr_backi Y (gr_runV (as := [.int a1]) (rest := []) X G Y (ok_m_aliveAt hc) cv_RX12_260 clM_0 ⟨Nat.le_of_ble_eq_true rfl, Nat.le_of_ble_eq_true rfl⟩ rfl hl.1 (Nat.le_of_ble_eq_true rfl) (dck_at da_X12_alive 8 rfl)) (fun H locs Y => ?_)
    refine lv_goto (tgt := 25) X.1 X.2.1 (dck_at da_X12_alive 9 rfl) rfl ?_
    exact gr_iretO X Y h hr rfl hlk (dck_at da_X12_alive 13 rfl)
set_option maxRecDepth 100000 in
set_option maxHeartbeats 4000000 in
theorem ok_m_team {l : Launch} {D : va_G} {cy : Nat → ClassId} {ad sa : Nat → Nat} {A : Nat → Prop} {F : Nat} {a1 : Int32} {a2 : Int32} {a3 : Int32} {s0 : St} {ρ : Int32} {σ' : St} (h : m_team F a1 a2 a3 s0 = some (ρ, σ')) : gMi l shM D cy ad sa A yX12_team cX12_team 4 (some .int) 3 [.ref (ad 0), .int a1, .int a2, .int a3] s0 ρ σ' := by
  refine gM_of (by decide) (Nat.le_of_ble_eq_true rfl) ?_
  intro p e s m args below meth c ls X G Y hr hlk hl
  have hl : lv_has ls 4 [(0, .ref (ad 0)), (1, .int a1), (2, .int a2), (3, .int a3)] := hl
  have b26 : ∀  (s0 : St) (H : Heap) (locs : List Loc) (ls : Array Slot), m_team_J26 F  s0 = some (ρ, σ') → gY shM D cy ad A s0 s H locs → lv_has ls 4 [(0, .ref (ad 0))] → W p l e (grm 3) s m args below meth c H locs 0 0 (MQ below (va_Qi (fun (q : Int32) (_ : Unit) => q = ρ) (fun _ t => va_P D vwCl (gWl shM cy ad σ') t.heap) A) args s 0 0 A) (F0 m 26 ls []) := by
    intro s0 H locs ls h Y hl
    unfold m_team_J26 at h
    refine lv_aload_n X.1 X.2.1 (dck_at da_X12_team 12 rfl) rfl (lv_at hl 0 rfl) ?_
    refine lv_iconst X.1 X.2.1 (dck_at da_X12_team 13 rfl) ki_m1 ?_
    obtain ⟨r1, s1, hc, h⟩ := gB2_some h
    refine gr_backi Y (gr_runV (as := [.int (-1 : Int32)]) (rest := []) X G Y (ok_m_tells hc) cv_RX12_130 clM_0 ⟨Nat.le_of_ble_eq_true rfl, Nat.le_of_ble_eq_true rfl⟩ rfl hl.1 (Nat.le_of_ble_eq_true rfl) (dck_at da_X12_team 14 rfl)) (fun H locs Y => ?_)
    exact gr_iretO X Y h hr rfl hlk (dck_at da_X12_team 15 rfl)
  unfold m_team at h
  refine lv_iload_n X.1 X.2.1 (dck_at da_X12_team 0 rfl) rfl (lv_at hl 1 rfl) ?_
  obtain ⟨r2, s2, hc, h⟩ := gB2_some h
  refine gr_backi Y (gr_runS (as := [.int a1]) (rest := []) X G Y (ok_m_isSort hc) cs_RX12_255 ⟨Nat.le_of_ble_eq_true rfl, Nat.le_of_ble_eq_true rfl⟩ rfl hl.1 (Nat.le_of_ble_eq_true rfl) (dck_at da_X12_team 1 rfl)) (fun H locs Y => ?_)
  refine lv_if_eq (tgt := 26) X.1 X.2.1 (dck_at da_X12_team 2 rfl) rfl (fun c => ?_) (fun c => ?_)
  · have h := gI_pos h c
    exact b26 s2 _ _ _ h Y (lv_sub hl [0] rfl)
  · have h := gI_neg h c
    refine lv_iload_n X.1 X.2.1 (dck_at da_X12_team 3 rfl) rfl (lv_at hl 2 rfl) ?_
    obtain ⟨r3, s3, hc, h⟩ := gB2_some h
    refine gr_backi Y (gr_runS (as := [.int a2]) (rest := []) X G Y (ok_m_isCell hc) cs_RX12_138 ⟨Nat.le_of_ble_eq_true rfl, Nat.le_of_ble_eq_true rfl⟩ rfl hl.1 (Nat.le_of_ble_eq_true rfl) (dck_at da_X12_team 4 rfl)) (fun H locs Y => ?_)
    refine lv_if_eq (tgt := 26) X.1 X.2.1 (dck_at da_X12_team 5 rfl) rfl (fun c => ?_) (fun c => ?_)
    · have h := gI_pos h c
      exact b26 s3 _ _ _ h Y (lv_sub hl [0] rfl)
    · have h := gI_neg h c
      refine lv_iload_n X.1 X.2.1 (dck_at da_X12_team 6 rfl) rfl (lv_at hl 3 rfl) ?_
      refine lv_i2l (v := (a3).toInt64) X.1 X.2.1 (dck_at da_X12_team 7 rfl) rfl ?_
      refine lv_lconst (v := 1) X.1 X.2.1 (dck_at da_X12_team 8 rfl) rfl ?_
      refine lv_ldc2 X.1 X.2.1 X.2.2.2.1 (X.2.2.2.2 _ wm_1313) (dck_at da_X12_team 9 rfl) ?_
      obtain ⟨r4, s4, hc, h⟩ := gB2_some h
      refine gr_backi Y (gr_runS (as := [.long ((a3).toInt64), .long (1 : Int64), .long (9 : Int64)]) (rest := []) X G Y (ok_m_in hc) cs_RX12_126 ⟨Nat.le_of_ble_eq_true rfl, Nat.le_of_ble_eq_true rfl⟩ rfl hl.1 (Nat.le_of_ble_eq_true rfl) (dck_at da_X12_team 10 rfl)) (fun H locs Y => ?_)
      refine lv_if_ne (tgt := 32) X.1 X.2.1 (dck_at da_X12_team 11 rfl) rfl (fun c => ?_) (fun c => ?_)
      · have h := gI_neg h c
        refine lv_aload_n X.1 X.2.1 (dck_at da_X12_team 16 rfl) rfl (lv_at hl 0 rfl) ?_
        refine gr_getI X G Y fk_RX12_228 clM_0 rfl (dck_at da_X12_team 17 rfl) ?_
        refine lv_iconst X.1 X.2.1 (dck_at da_X12_team 18 rfl) ki_4 ?_
        refine lv_icmp_ne (tgt := 47) X.1 X.2.1 (dck_at da_X12_team 19 rfl) rfl (fun c => ?_) (fun c => ?_)
        · have h := gI_neg h c
          refine lv_aload_n X.1 X.2.1 (dck_at da_X12_team 24 rfl) rfl (lv_at hl 0 rfl) ?_
          refine gr_getR X G Y fk_RX12_41 clM_0 rfl (dck_at da_X12_team 25 rfl) ?_
          refine lv_aload_n X.1 X.2.1 (dck_at da_X12_team 26 rfl) rfl (lv_at hl 0 rfl) ?_
          refine gr_getI X G Y fk_RX12_228 clM_0 rfl (dck_at da_X12_team 27 rfl) ?_
          refine lv_iload_n X.1 X.2.1 (dck_at da_X12_team 28 rfl) rfl (lv_at hl 1 rfl) ?_
          obtain ⟨hin, h⟩ := gI_if h
          refine gr_iast X G Y clM_11 hin (dck_at da_X12_team 29 rfl) (fun H locs Y => ?_)
          refine lv_aload_n X.1 X.2.1 (dck_at da_X12_team 30 rfl) rfl (lv_at hl 0 rfl) ?_
          refine gr_getR X G Y fk_RX12_44 clM_0 rfl (dck_at da_X12_team 31 rfl) ?_
          refine lv_aload_n X.1 X.2.1 (dck_at da_X12_team 32 rfl) rfl (lv_at hl 0 rfl) ?_
          refine gr_getI X G Y fk_RX12_228 clM_0 rfl (dck_at da_X12_team 33 rfl) ?_
          refine lv_iload_n X.1 X.2.1 (dck_at da_X12_team 34 rfl) rfl (lv_at hl 2 rfl) ?_
          obtain ⟨hin, h⟩ := gI_if h
          refine gr_iast X G Y clM_12 hin (dck_at da_X12_team 35 rfl) (fun H locs Y => ?_)
          refine lv_aload_n X.1 X.2.1 (dck_at da_X12_team 36 rfl) rfl (lv_at hl 0 rfl) ?_
          refine gr_getR X G Y fk_RX12_47 clM_0 rfl (dck_at da_X12_team 37 rfl) ?_
          refine lv_aload_n X.1 X.2.1 (dck_at da_X12_team 38 rfl) rfl (lv_at hl 0 rfl) ?_
          refine gr_getI X G Y fk_RX12_228 clM_0 rfl (dck_at da_X12_team 39 rfl) ?_
          refine lv_iload_n X.1 X.2.1 (dck_at da_X12_team 40 rfl) rfl (lv_at hl 3 rfl) ?_
          obtain ⟨hin, h⟩ := gI_if h
          refine gr_iast X G Y clM_13 hin (dck_at da_X12_team 41 rfl) (fun H locs Y => ?_)
          refine lv_aload_n X.1 X.2.1 (dck_at da_X12_team 42 rfl) rfl (lv_at hl 0 rfl) ?_
          refine lv_dup X.1 X.2.1 (dck_at da_X12_team 43 rfl) rfl ?_
          refine gr_getI X G Y fk_RX12_228 clM_0 rfl (dck_at da_X12_team 44 rfl) ?_
          refine lv_iconst X.1 X.2.1 (dck_at da_X12_team 45 rfl) ki_1 ?_
          refine lv_iadd X.1 X.2.1 (dck_at da_X12_team 46 rfl) ?_
          refine gr_putI X G Y fp_RX12_228 clM_0 rfl (dck_at da_X12_team 47 rfl) (fun H locs Y => ?_)
          refine lv_aload_n X.1 X.2.1 (dck_at da_X12_team 48 rfl) rfl (lv_at hl 0 rfl) ?_
          refine gr_getI X G Y fk_RX12_228 clM_0 rfl (dck_at da_X12_team 49 rfl) ?_
          refine lv_iconst X.1 X.2.1 (dck_at da_X12_team 50 rfl) ki_1 ?_
          refine lv_isub X.1 X.2.1 (dck_at da_X12_team 51 rfl) ?_
          exact gr_iretO X Y h hr rfl hlk (dck_at da_X12_team 52 rfl)
        · have h := gI_pos h c
          refine lv_aload_n X.1 X.2.1 (dck_at da_X12_team 20 rfl) rfl (lv_at hl 0 rfl) ?_
          refine lv_bipush X.1 X.2.1 (dck_at da_X12_team 21 rfl) kb_m3 ?_
          obtain ⟨r5, s5, hc, h⟩ := gB2_some h
          refine gr_backi Y (gr_runV (as := [.int (-3 : Int32)]) (rest := []) X G Y (ok_m_tells hc) cv_RX12_130 clM_0 ⟨Nat.le_of_ble_eq_true rfl, Nat.le_of_ble_eq_true rfl⟩ rfl hl.1 (Nat.le_of_ble_eq_true rfl) (dck_at da_X12_team 22 rfl)) (fun H locs Y => ?_)
          exact gr_iretO X Y h hr rfl hlk (dck_at da_X12_team 23 rfl)
      · have h := gI_pos h c
        exact b26 s4 _ _ _ h Y (lv_sub hl [0] rfl)
set_option maxRecDepth 100000 in
set_option maxHeartbeats 4000000 in
theorem ok_m_place {l : Launch} {D : va_G} {cy : Nat → ClassId} {ad sa : Nat → Nat} {A : Nat → Prop} {F : Nat} {a1 : Int32} {s0 : St} {ρ : Int32} {σ' : St} (h : m_place F a1 s0 = some (ρ, σ')) : gMi l shM D cy ad sa A yX12_place cX12_place 4 (some .int) 3 [.ref (ad 0), .int a1] s0 ρ σ' := by
  refine gM_of (by decide) (Nat.le_of_ble_eq_true rfl) ?_
  intro p e s m args below meth c ls X G Y hr hlk hl
  have hl : lv_has ls 4 [(0, .ref (ad 0)), (1, .int a1)] := hl
  have b17 : ∀ n : Nat, ∀ (x1 : Int32) (x2 : Int32) (x3 : Int32) (s0 : St) (H : Heap) (locs : List Loc) (ls : Array Slot), m_place_L17 F  n x1 x2 x3 s0 = some (ρ, σ') → gY shM D cy ad A s0 s H locs → lv_has ls 4 [(0, .ref (ad 0)), (1, .int x1), (2, .int x2), (3, .int x3)] → W p l e (grm 3) s m args below meth c H locs 0 0 (MQ below (va_Qi (fun (q : Int32) (_ : Unit) => q = ρ) (fun _ t => va_P D vwCl (gWl shM cy ad σ') t.heap) A) args s 0 0 A) (F0 m 17 ls []) := by
    intro n
    induction n with
    | zero => intro x1 x2 x3 s0 H locs ls h Y hl; exact (gnone h).elim
    | succ n hk17 =>
      have e : m_place_L17 F  (n + 1) = m_place_L17b F  (m_place_L17 F  n) := rfl
      rw [e]; clear e
      generalize m_place_L17 F  n = k17 at hk17 ⊢
      have b44 : ∀ (x1 : Int32) (x3 : Int32) (y0 : Int32) (s0 : St) (H : Heap) (locs : List Loc) (ls : Array Slot), m_place_J44 F k17 x1 x3 y0 s0 = some (ρ, σ') → gY shM D cy ad A s0 s H locs → lv_has ls 4 [(0, .ref (ad 0)), (1, .int x1), (3, .int x3)] → W p l e (grm 3) s m args below meth c H locs 0 0 (MQ below (va_Qi (fun (q : Int32) (_ : Unit) => q = ρ) (fun _ t => va_P D vwCl (gWl shM cy ad σ') t.heap) A) args s 0 0 A) (F0 m 44 ls [.int y0]) := by
        intro x1 x3 y0 s0 H locs ls h Y hl
        unfold m_place_J44 at h
        refine lv_istore_n (lv' := [(2, .int y0), (0, .ref (ad 0)), (1, .int x1), (3, .int x3)]) X.1 X.2.1 (dck_at da_X12_place 26 rfl) rfl hl (by decide) rfl (fun ls hl => ?_)
        refine lv_iinc (v := x3 + (1 : Int32)) (lv' := [(3, .int (x3 + (1 : Int32))), (2, .int y0), (0, .ref (ad 0)), (1, .int x1)]) X.1 X.2.1 (dck_at da_X12_place 27 rfl) hl (k := 3) rfl (congrArg (HAdd.hAdd _) ki_1) (by decide) rfl (fun ls hl => ?_)
        refine lv_goto (tgt := 17) X.1 X.2.1 (dck_at da_X12_place 28 rfl) rfl ?_
        exact hk17 x1 y0 (x3 + (1 : Int32)) s0 _ _ _ h Y (lv_sub hl [2, 3, 1, 0] rfl)
      have b39 : ∀ (x1 : Int32) (x3 : Int32) (s0 : St) (H : Heap) (locs : List Loc) (ls : Array Slot), m_place_J39 F k17 x1 x3 s0 = some (ρ, σ') → gY shM D cy ad A s0 s H locs → lv_has ls 4 [(0, .ref (ad 0)), (1, .int x1), (3, .int x3)] → W p l e (grm 3) s m args below meth c H locs 0 0 (MQ below (va_Qi (fun (q : Int32) (_ : Unit) => q = ρ) (fun _ t => va_P D vwCl (gWl shM cy ad σ') t.heap) A) args s 0 0 A) (F0 m 39 ls []) := by
        intro x1 x3 s0 H locs ls h Y hl
        unfold m_place_J39 at h
        refine lv_iconst X.1 X.2.1 (dck_at da_X12_place 23 rfl) ki_1 ?_
        refine lv_goto (tgt := 44) X.1 X.2.1 (dck_at da_X12_place 24 rfl) rfl ?_
        exact b44 x1 x3 (1 : Int32) s0 _ _ _ h Y (lv_sub hl [0, 1, 2] rfl)
      intro x1 x2 x3 s0 H locs ls h Y hl
      unfold m_place_L17b at h
      refine lv_iload_n X.1 X.2.1 (dck_at da_X12_place 11 rfl) rfl (lv_at hl 3 rfl) ?_
      refine lv_aload_n X.1 X.2.1 (dck_at da_X12_place 12 rfl) rfl (lv_at hl 0 rfl) ?_
      refine gr_getI X G Y fk_RX12_231 clM_0 rfl (dck_at da_X12_place 13 rfl) ?_
      refine lv_icmp_ge (tgt := 51) X.1 X.2.1 (dck_at da_X12_place 14 rfl) rfl (fun c => ?_) (fun c => ?_)
      · have h := gI_pos h c
        refine lv_aload_n X.1 X.2.1 (dck_at da_X12_place 29 rfl) rfl (lv_at hl 0 rfl) ?_
        refine gr_getI X G Y fk_RX12_231 clM_0 rfl (dck_at da_X12_place 30 rfl) ?_
        refine lv_bipush X.1 X.2.1 (dck_at da_X12_place 31 rfl) kb_6 ?_
        refine lv_icmp_ne (tgt := 67) X.1 X.2.1 (dck_at da_X12_place 32 rfl) rfl (fun c => ?_) (fun c => ?_)
        · have h := gI_neg h c
          refine lv_iload_n X.1 X.2.1 (dck_at da_X12_place 37 rfl) rfl (lv_at hl 2 rfl) ?_
          refine lv_if_eq (tgt := 78) X.1 X.2.1 (dck_at da_X12_place 38 rfl) rfl (fun c => ?_) (fun c => ?_)
          · have h := gI_pos h c
            refine lv_aload_n X.1 X.2.1 (dck_at da_X12_place 43 rfl) rfl (lv_at hl 0 rfl) ?_
            refine gr_getR X G Y fk_RX12_50 clM_0 rfl (dck_at da_X12_place 44 rfl) ?_
            refine lv_aload_n X.1 X.2.1 (dck_at da_X12_place 45 rfl) rfl (lv_at hl 0 rfl) ?_
            refine gr_getI X G Y fk_RX12_231 clM_0 rfl (dck_at da_X12_place 46 rfl) ?_
            refine lv_iload_n X.1 X.2.1 (dck_at da_X12_place 47 rfl) rfl (lv_at hl 1 rfl) ?_
            obtain ⟨hin, h⟩ := gI_if h
            refine gr_iast X G Y clM_14 hin (dck_at da_X12_place 48 rfl) (fun H locs Y => ?_)
            refine lv_aload_n X.1 X.2.1 (dck_at da_X12_place 49 rfl) rfl (lv_at hl 0 rfl) ?_
            refine lv_dup X.1 X.2.1 (dck_at da_X12_place 50 rfl) rfl ?_
            refine gr_getI X G Y fk_RX12_231 clM_0 rfl (dck_at da_X12_place 51 rfl) ?_
            refine lv_iconst X.1 X.2.1 (dck_at da_X12_place 52 rfl) ki_1 ?_
            refine lv_iadd X.1 X.2.1 (dck_at da_X12_place 53 rfl) ?_
            refine gr_putI X G Y fp_RX12_231 clM_0 rfl (dck_at da_X12_place 54 rfl) (fun H locs Y => ?_)
            refine lv_aload_n X.1 X.2.1 (dck_at da_X12_place 55 rfl) rfl (lv_at hl 0 rfl) ?_
            refine gr_getI X G Y fk_RX12_231 clM_0 rfl (dck_at da_X12_place 56 rfl) ?_
            refine lv_iconst X.1 X.2.1 (dck_at da_X12_place 57 rfl) ki_1 ?_
            refine lv_isub X.1 X.2.1 (dck_at da_X12_place 58 rfl) ?_
            exact gr_iretO X Y h hr rfl hlk (dck_at da_X12_place 59 rfl)
          · have h := gI_neg h c
            refine lv_aload_n X.1 X.2.1 (dck_at da_X12_place 39 rfl) rfl (lv_at hl 0 rfl) ?_
            refine lv_bipush X.1 X.2.1 (dck_at da_X12_place 40 rfl) kb_m2 ?_
            obtain ⟨r1, s1, hc, h⟩ := gB2_some h
            refine gr_backi Y (gr_runV (as := [.int (-2 : Int32)]) (rest := []) X G Y (ok_m_tells hc) cv_RX12_130 clM_0 ⟨Nat.le_of_ble_eq_true rfl, Nat.le_of_ble_eq_true rfl⟩ rfl hl.1 (Nat.le_of_ble_eq_true rfl) (dck_at da_X12_place 41 rfl)) (fun H locs Y => ?_)
            exact gr_iretO X Y h hr rfl hlk (dck_at da_X12_place 42 rfl)
        · have h := gI_pos h c
          refine lv_aload_n X.1 X.2.1 (dck_at da_X12_place 33 rfl) rfl (lv_at hl 0 rfl) ?_
          refine lv_bipush X.1 X.2.1 (dck_at da_X12_place 34 rfl) kb_m3 ?_
          obtain ⟨r2, s2, hc, h⟩ := gB2_some h
          refine gr_backi Y (gr_runV (as := [.int (-3 : Int32)]) (rest := []) X G Y (ok_m_tells hc) cv_RX12_130 clM_0 ⟨Nat.le_of_ble_eq_true rfl, Nat.le_of_ble_eq_true rfl⟩ rfl hl.1 (Nat.le_of_ble_eq_true rfl) (dck_at da_X12_place 35 rfl)) (fun H locs Y => ?_)
          exact gr_iretO X Y h hr rfl hlk (dck_at da_X12_place 36 rfl)
      · have h := gI_neg h c
        refine lv_iload_n X.1 X.2.1 (dck_at da_X12_place 15 rfl) rfl (lv_at hl 2 rfl) ?_
        refine lv_if_ne (tgt := 39) X.1 X.2.1 (dck_at da_X12_place 16 rfl) rfl (fun c => ?_) (fun c => ?_)
        · have h := gI_neg h c
          exact b39 x1 x3 s0 _ _ _ h Y (lv_sub hl [0, 1, 3] rfl)
        · have h := gI_pos h c
          refine lv_aload_n X.1 X.2.1 (dck_at da_X12_place 17 rfl) rfl (lv_at hl 0 rfl) ?_
          refine gr_getR X G Y fk_RX12_50 clM_0 rfl (dck_at da_X12_place 18 rfl) ?_
          refine lv_iload_n X.1 X.2.1 (dck_at da_X12_place 19 rfl) rfl (lv_at hl 3 rfl) ?_
          obtain ⟨hin, h⟩ := gI_if h
          refine gr_iald X G Y clM_14 hin (dck_at da_X12_place 20 rfl) ?_
          refine lv_iload_n X.1 X.2.1 (dck_at da_X12_place 21 rfl) rfl (lv_at hl 1 rfl) ?_
          refine lv_icmp_ne (tgt := 43) X.1 X.2.1 (dck_at da_X12_place 22 rfl) rfl (fun c => ?_) (fun c => ?_)
          · have h := gI_neg h c
            refine lv_iconst X.1 X.2.1 (dck_at da_X12_place 25 rfl) ki_0 ?_
            exact b44 x1 x3 (0 : Int32) s0 _ _ _ h Y (lv_sub hl [0, 1, 3] rfl)
          · have h := gI_pos h c
            exact b39 x1 x3 s0 _ _ _ h Y (lv_sub hl [0, 1, 3] rfl)
  unfold m_place at h
  refine lv_iload_n X.1 X.2.1 (dck_at da_X12_place 0 rfl) rfl (lv_at hl 1 rfl) ?_
  obtain ⟨r3, s3, hc, h⟩ := gB2_some h
  refine gr_backi Y (gr_runS (as := [.int a1]) (rest := []) X G Y (ok_m_isCell hc) cs_RX12_138 ⟨Nat.le_of_ble_eq_true rfl, Nat.le_of_ble_eq_true rfl⟩ rfl hl.1 (Nat.le_of_ble_eq_true rfl) (dck_at da_X12_place 1 rfl)) (fun H locs Y => ?_)
  refine lv_if_ne (tgt := 13) X.1 X.2.1 (dck_at da_X12_place 2 rfl) rfl (fun c => ?_) (fun c => ?_)
  · have h := gI_neg h c
    refine lv_iconst X.1 X.2.1 (dck_at da_X12_place 7 rfl) ki_0 ?_
    refine lv_istore_n (lv' := [(2, .int (0 : Int32)), (0, .ref (ad 0)), (1, .int a1)]) X.1 X.2.1 (dck_at da_X12_place 8 rfl) rfl hl (by decide) rfl (fun ls hl => ?_)
    refine lv_iconst X.1 X.2.1 (dck_at da_X12_place 9 rfl) ki_0 ?_
    refine lv_istore_n (lv' := [(3, .int (0 : Int32)), (2, .int (0 : Int32)), (0, .ref (ad 0)), (1, .int a1)]) X.1 X.2.1 (dck_at da_X12_place 10 rfl) rfl hl (by decide) rfl (fun ls hl => ?_)
    exact b17 F a1 (0 : Int32) (0 : Int32) s3 _ _ _ h Y (lv_sub hl [2, 3, 1, 0] rfl)
  · have h := gI_pos h c
    refine lv_aload_n X.1 X.2.1 (dck_at da_X12_place 3 rfl) rfl (lv_at hl 0 rfl) ?_
    refine lv_iconst X.1 X.2.1 (dck_at da_X12_place 4 rfl) ki_m1 ?_
    obtain ⟨r4, s4, hc, h⟩ := gB2_some h
    refine gr_backi Y (gr_runV (as := [.int (-1 : Int32)]) (rest := []) X G Y (ok_m_tells hc) cv_RX12_130 clM_0 ⟨Nat.le_of_ble_eq_true rfl, Nat.le_of_ble_eq_true rfl⟩ rfl hl.1 (Nat.le_of_ble_eq_true rfl) (dck_at da_X12_place 5 rfl)) (fun H locs Y => ?_)
    exact gr_iretO X Y h hr rfl hlk (dck_at da_X12_place 6 rfl)
set_option maxRecDepth 100000 in
set_option maxHeartbeats 4000000 in
theorem ok_m_size {l : Launch} {D : va_G} {cy : Nat → ClassId} {ad sa : Nat → Nat} {A : Nat → Prop} {F : Nat} {a0 : Int32} {s0 : St} {ρ : Int32} {σ' : St} (h : m_size F a0 s0 = some (ρ, σ')) : gMi l shM D cy ad sa A yX12_size cX12_size 1 (some .int) 1 [.int a0] s0 ρ σ' := by
  refine gM_of (by decide) (Nat.le_of_ble_eq_true rfl) ?_
  intro p e s m args below meth c ls X G Y hr hlk hl
  have hl : lv_has ls 1 [(0, .int a0)] := hl
  unfold m_size at h
  refine lv_iload_n X.1 X.2.1 (dck_at da_X12_size 0 rfl) rfl (lv_at hl 0 rfl) ?_
  refine lv_if_ge (tgt := 9) X.1 X.2.1 (dck_at da_X12_size 1 rfl) rfl (fun c => ?_) (fun c => ?_)
  · have h := gI_pos h c
    refine lv_iload_n X.1 X.2.1 (dck_at da_X12_size 5 rfl) rfl (lv_at hl 0 rfl) ?_
    exact gr_iretO X Y h hr rfl hlk (dck_at da_X12_size 6 rfl)
  · have h := gI_neg h c
    refine lv_iload_n X.1 X.2.1 (dck_at da_X12_size 2 rfl) rfl (lv_at hl 0 rfl) ?_
    refine lv_ineg X.1 X.2.1 (dck_at da_X12_size 3 rfl) ?_
    refine lv_goto (tgt := 10) X.1 X.2.1 (dck_at da_X12_size 4 rfl) rfl ?_
    exact gr_iretO X Y h hr rfl hlk (dck_at da_X12_size 6 rfl)
set_option maxRecDepth 100000 in
set_option maxHeartbeats 4000000 in
theorem ok_m_seen {l : Launch} {D : va_G} {cy : Nat → ClassId} {ad sa : Nat → Nat} {A : Nat → Prop} {F : Nat} {a1 : Int32} {a2 : Int32} {a3 : Int32} {s0 : St} {ρ : Int64} {σ' : St} (h : m_seen F a1 a2 a3 s0 = some (ρ, σ')) : gMl l shM D cy ad sa A yX12_seen cX12_seen 7 (some .long) 3 [.ref (ad 0), .int a1, .int a2, .int a3] s0 ρ σ' := by
  refine gM_of (by decide) (Nat.le_of_ble_eq_true rfl) ?_
  intro p e s m args below meth c ls X G Y hr hlk hl
  have hl : lv_has ls 7 [(0, .ref (ad 0)), (1, .int a1), (2, .int a2), (3, .int a3)] := hl
  have b6 : ∀ n : Nat, ∀ (x1 : Int32) (x2 : Int32) (x3 : Int32) (x4 : Int64) (x6 : Int32) (s0 : St) (H : Heap) (locs : List Loc) (ls : Array Slot), m_seen_L6 F  n x1 x2 x3 x4 x6 s0 = some (ρ, σ') → gY shM D cy ad A s0 s H locs → lv_has ls 7 [(0, .ref (ad 0)), (1, .int x1), (2, .int x2), (3, .int x3), (4, .long x4), (6, .int x6)] → W p l e (grm 3) s m args below meth c H locs 0 0 (MQ below (va_Ql (fun (q : Int64) (_ : Unit) => q = ρ) (fun _ t => va_P D vwCl (gWl shM cy ad σ') t.heap) A) args s 0 0 A) (F0 m 6 ls []) := by
    intro n
    induction n with
    | zero => intro x1 x2 x3 x4 x6 s0 H locs ls h Y hl; exact (gnone h).elim
    | succ n hk6 =>
      have e : m_seen_L6 F  (n + 1) = m_seen_L6b F  (m_seen_L6 F  n) := rfl
      rw [e]; clear e
      generalize m_seen_L6 F  n = k6 at hk6 ⊢
      have b39 : ∀ (x1 : Int32) (x2 : Int32) (x3 : Int32) (x6 : Int32) (y0 : Int64) (y1 : Int64) (y3 : Int32) (y4 : Int32) (y5 : Int32) (s0 : St) (H : Heap) (locs : List Loc) (ls : Array Slot), m_seen_J39 F k6 x1 x2 x3 x6 y0 y1 y3 y4 y5 s0 = some (ρ, σ') → gY shM D cy ad A s0 s H locs → lv_has ls 7 [(0, .ref (ad 0)), (1, .int x1), (2, .int x2), (3, .int x3), (6, .int x6)] → W p l e (grm 3) s m args below meth c H locs 0 0 (MQ below (va_Ql (fun (q : Int64) (_ : Unit) => q = ρ) (fun _ t => va_P D vwCl (gWl shM cy ad σ') t.heap) A) args s 0 0 A) (F0 m 39 ls [.int y5, .int y4, .int y3, .ref (ad 0), .long y1, .long y0]) := by
        intro x1 x2 x3 x6 y0 y1 y3 y4 y5 s0 H locs ls h Y hl
        unfold m_seen_J39 at h
        refine lv_iload_n X.1 X.2.1 (dck_at da_X12_seen 25 rfl) rfl (lv_at hl 3 rfl) ?_
        obtain ⟨r1, s1, hc, h⟩ := gB2_some h
        refine gr_backi Y (gr_runV (as := [.int y3, .int y4, .int y5, .int x3]) (rest := [.long y1, .long y0]) X G Y (ok_m_sixteenths hc) cv_RX12_249 clM_0 ⟨Nat.le_of_ble_eq_true rfl, Nat.le_of_ble_eq_true rfl⟩ rfl hl.1 (Nat.le_of_ble_eq_true rfl) (dck_at da_X12_seen 26 rfl)) (fun H locs Y => ?_)
        refine lv_i2l (v := (r1).toInt64) X.1 X.2.1 (dck_at da_X12_seen 27 rfl) rfl ?_
        refine lv_lmul X.1 X.2.1 (dck_at da_X12_seen 28 rfl) ?_
        refine lv_ldc2 X.1 X.2.1 X.2.2.2.1 (X.2.2.2.2 _ wm_1442) (dck_at da_X12_seen 29 rfl) ?_
        refine lv_ldiv X.1 X.2.1 (dck_at da_X12_seen 30 rfl) (by decide) ?_
        refine lv_ladd X.1 X.2.1 (dck_at da_X12_seen 31 rfl) ?_
        refine lv_lstore (lv' := [(4, .long (y0 + ((y1 * ((r1).toInt64)) / (16 : Int64)))), (0, .ref (ad 0)), (1, .int x1), (2, .int x2), (3, .int x3), (6, .int x6)]) X.1 X.2.1 (dck_at da_X12_seen 32 rfl) hl (by decide) rfl (fun ls hl => ?_)
        refine lv_iinc (v := x6 + (1 : Int32)) (lv' := [(6, .int (x6 + (1 : Int32))), (4, .long (y0 + ((y1 * ((r1).toInt64)) / (16 : Int64)))), (0, .ref (ad 0)), (1, .int x1), (2, .int x2), (3, .int x3)]) X.1 X.2.1 (dck_at da_X12_seen 33 rfl) hl (k := 5) rfl (congrArg (HAdd.hAdd _) ki_1) (by decide) rfl (fun ls hl => ?_)
        refine lv_goto (tgt := 6) X.1 X.2.1 (dck_at da_X12_seen 34 rfl) rfl ?_
        exact hk6 x1 x2 x3 (y0 + ((y1 * ((r1).toInt64)) / (16 : Int64))) (x6 + (1 : Int32)) s1 _ _ _ h Y (lv_sub hl [2, 3, 4, 5, 1, 0] rfl)
      intro x1 x2 x3 x4 x6 s0 H locs ls h Y hl
      unfold m_seen_L6b at h
      refine lv_iload X.1 X.2.1 (dck_at da_X12_seen 4 rfl) (lv_at hl 5 rfl) ?_
      refine lv_iconst X.1 X.2.1 (dck_at da_X12_seen 5 rfl) ki_5 ?_
      refine lv_icmp_ge (tgt := 58) X.1 X.2.1 (dck_at da_X12_seen 6 rfl) rfl (fun c => ?_) (fun c => ?_)
      · have h := gI_pos h c
        refine lv_lload X.1 X.2.1 (dck_at da_X12_seen 35 rfl) (lv_at hl 4 rfl) ?_
        exact gr_lretO X Y h hr hlk (dck_at da_X12_seen 36 rfl)
      · have h := gI_neg h c
        refine lv_lload X.1 X.2.1 (dck_at da_X12_seen 7 rfl) (lv_at hl 4 rfl) ?_
        refine lv_aload_n X.1 X.2.1 (dck_at da_X12_seen 8 rfl) rfl (lv_at hl 0 rfl) ?_
        refine gr_getR X G Y fk_RX12_34 clM_0 rfl (dck_at da_X12_seen 9 rfl) ?_
        refine lv_iconst X.1 X.2.1 (dck_at da_X12_seen 10 rfl) ki_5 ?_
        refine lv_iload_n X.1 X.2.1 (dck_at da_X12_seen 11 rfl) rfl (lv_at hl 2 rfl) ?_
        refine lv_imul X.1 X.2.1 (dck_at da_X12_seen 12 rfl) ?_
        refine lv_iload X.1 X.2.1 (dck_at da_X12_seen 13 rfl) (lv_at hl 5 rfl) ?_
        refine lv_iadd X.1 X.2.1 (dck_at da_X12_seen 14 rfl) ?_
        obtain ⟨hin, h⟩ := gI_if h
        refine gr_lald X G Y clM_9 hin (dck_at da_X12_seen 15 rfl) ?_
        refine lv_aload_n X.1 X.2.1 (dck_at da_X12_seen 16 rfl) rfl (lv_at hl 0 rfl) ?_
        refine lv_iload_n X.1 X.2.1 (dck_at da_X12_seen 17 rfl) rfl (lv_at hl 1 rfl) ?_
        refine lv_iload_n X.1 X.2.1 (dck_at da_X12_seen 18 rfl) rfl (lv_at hl 2 rfl) ?_
        refine lv_iload X.1 X.2.1 (dck_at da_X12_seen 19 rfl) (lv_at hl 5 rfl) ?_
        refine lv_iconst X.1 X.2.1 (dck_at da_X12_seen 20 rfl) ki_4 ?_
        refine lv_icmp_ne (tgt := 38) X.1 X.2.1 (dck_at da_X12_seen 21 rfl) rfl (fun c => ?_) (fun c => ?_)
        · have h := gI_neg h c
          refine lv_iconst X.1 X.2.1 (dck_at da_X12_seen 24 rfl) ki_0 ?_
          exact b39 x1 x2 x3 x6 x4 (s0.2 9 (((5 : Int32) * x2) + x6).toNatClampNeg) x1 x2 (0 : Int32) s0 _ _ _ h Y (lv_sub hl [0, 1, 2, 3, 5] rfl)
        · have h := gI_pos h c
          refine lv_iconst X.1 X.2.1 (dck_at da_X12_seen 22 rfl) ki_1 ?_
          refine lv_goto (tgt := 39) X.1 X.2.1 (dck_at da_X12_seen 23 rfl) rfl ?_
          exact b39 x1 x2 x3 x6 x4 (s0.2 9 (((5 : Int32) * x2) + x6).toNatClampNeg) x1 x2 (1 : Int32) s0 _ _ _ h Y (lv_sub hl [0, 1, 2, 3, 5] rfl)
  unfold m_seen at h
  refine lv_lconst (v := 0) X.1 X.2.1 (dck_at da_X12_seen 0 rfl) rfl ?_
  refine lv_lstore (lv' := [(4, .long (0 : Int64)), (0, .ref (ad 0)), (1, .int a1), (2, .int a2), (3, .int a3)]) X.1 X.2.1 (dck_at da_X12_seen 1 rfl) hl (by decide) rfl (fun ls hl => ?_)
  refine lv_iconst X.1 X.2.1 (dck_at da_X12_seen 2 rfl) ki_0 ?_
  refine lv_istore (lv' := [(6, .int (0 : Int32)), (4, .long (0 : Int64)), (0, .ref (ad 0)), (1, .int a1), (2, .int a2), (3, .int a3)]) X.1 X.2.1 (dck_at da_X12_seen 3 rfl) hl (by decide) rfl (fun ls hl => ?_)
  exact b6 F a1 a2 a3 (0 : Int64) (0 : Int32) s0 _ _ _ h Y (lv_sub hl [2, 3, 4, 5, 1, 0] rfl)
set_option maxRecDepth 100000 in
set_option maxHeartbeats 4000000 in
theorem ok_m_value {l : Launch} {D : va_G} {cy : Nat → ClassId} {ad sa : Nat → Nat} {A : Nat → Prop} {F : Nat} {a1 : Int32} {a2 : Int32} {s0 : St} {ρ : Int64} {σ' : St} (h : m_value F a1 a2 s0 = some (ρ, σ')) : gMl l shM D cy ad sa A yX12_value cX12_value 5 (some .long) 4 [.ref (ad 0), .int a1, .int a2] s0 ρ σ' := by
  refine gM_of (by decide) (Nat.le_of_ble_eq_true rfl) ?_
  intro p e s m args below meth c ls X G Y hr hlk hl
  have hl : lv_has ls 5 [(0, .ref (ad 0)), (1, .int a1), (2, .int a2)] := hl
  unfold m_value at h
  refine lv_aload_n X.1 X.2.1 (dck_at da_X12_value 0 rfl) rfl (lv_at hl 0 rfl) ?_
  refine gr_getR X G Y fk_RX12_44 clM_0 rfl (dck_at da_X12_value 1 rfl) ?_
  refine lv_iload_n X.1 X.2.1 (dck_at da_X12_value 2 rfl) rfl (lv_at hl 1 rfl) ?_
  obtain ⟨hin, h⟩ := gI_if h
  refine gr_iald X G Y clM_12 hin (dck_at da_X12_value 3 rfl) ?_
  refine lv_bipush X.1 X.2.1 (dck_at da_X12_value 4 rfl) kb_12 ?_
  refine lv_idiv X.1 X.2.1 (dck_at da_X12_value 5 rfl) (by decide) ?_
  refine lv_aload_n X.1 X.2.1 (dck_at da_X12_value 6 rfl) rfl (lv_at hl 0 rfl) ?_
  refine gr_getR X G Y fk_RX12_50 clM_0 rfl (dck_at da_X12_value 7 rfl) ?_
  refine lv_iload_n X.1 X.2.1 (dck_at da_X12_value 8 rfl) rfl (lv_at hl 2 rfl) ?_
  obtain ⟨hin, h⟩ := gI_if h
  refine gr_iald X G Y clM_14 hin (dck_at da_X12_value 9 rfl) ?_
  refine lv_bipush X.1 X.2.1 (dck_at da_X12_value 10 rfl) kb_12 ?_
  refine lv_idiv X.1 X.2.1 (dck_at da_X12_value 11 rfl) (by decide) ?_
  refine lv_isub X.1 X.2.1 (dck_at da_X12_value 12 rfl) ?_
  obtain ⟨r1, s1, hc, h⟩ := gB2_some h
  refine gr_backi Y (gr_runS (as := [.int (((s0.1 12 (a1).toNatClampNeg) / (12 : Int32)) - ((s0.1 14 (a2).toNatClampNeg) / (12 : Int32)))]) (rest := []) X G Y (ok_m_size hc) cs_RX12_263 ⟨Nat.le_of_ble_eq_true rfl, Nat.le_of_ble_eq_true rfl⟩ rfl hl.1 (Nat.le_of_ble_eq_true rfl) (dck_at da_X12_value 13 rfl)) (fun H locs Y => ?_)
  refine lv_aload_n X.1 X.2.1 (dck_at da_X12_value 14 rfl) rfl (lv_at hl 0 rfl) ?_
  refine gr_getR X G Y fk_RX12_44 clM_0 rfl (dck_at da_X12_value 15 rfl) ?_
  refine lv_iload_n X.1 X.2.1 (dck_at da_X12_value 16 rfl) rfl (lv_at hl 1 rfl) ?_
  obtain ⟨hin, h⟩ := gI_if h
  refine gr_iald X G Y clM_12 hin (dck_at da_X12_value 17 rfl) ?_
  refine lv_bipush X.1 X.2.1 (dck_at da_X12_value 18 rfl) kb_12 ?_
  refine lv_irem X.1 X.2.1 (dck_at da_X12_value 19 rfl) (by decide) ?_
  refine lv_aload_n X.1 X.2.1 (dck_at da_X12_value 20 rfl) rfl (lv_at hl 0 rfl) ?_
  refine gr_getR X G Y fk_RX12_50 clM_0 rfl (dck_at da_X12_value 21 rfl) ?_
  refine lv_iload_n X.1 X.2.1 (dck_at da_X12_value 22 rfl) rfl (lv_at hl 2 rfl) ?_
  obtain ⟨hin, h⟩ := gI_if h
  refine gr_iald X G Y clM_14 hin (dck_at da_X12_value 23 rfl) ?_
  refine lv_bipush X.1 X.2.1 (dck_at da_X12_value 24 rfl) kb_12 ?_
  refine lv_irem X.1 X.2.1 (dck_at da_X12_value 25 rfl) (by decide) ?_
  refine lv_isub X.1 X.2.1 (dck_at da_X12_value 26 rfl) ?_
  obtain ⟨r2, s2, hc, h⟩ := gB2_some h
  refine gr_backi Y (gr_runS (as := [.int (((s1.1 12 (a1).toNatClampNeg) - (s1.1 12 (a1).toNatClampNeg) / (12 : Int32) * (12 : Int32)) - ((s1.1 14 (a2).toNatClampNeg) - (s1.1 14 (a2).toNatClampNeg) / (12 : Int32) * (12 : Int32)))]) (rest := [.int r1]) X G Y (ok_m_size hc) cs_RX12_263 ⟨Nat.le_of_ble_eq_true rfl, Nat.le_of_ble_eq_true rfl⟩ rfl hl.1 (Nat.le_of_ble_eq_true rfl) (dck_at da_X12_value 27 rfl)) (fun H locs Y => ?_)
  refine lv_iadd X.1 X.2.1 (dck_at da_X12_value 28 rfl) ?_
  refine lv_istore_n (lv' := [(3, .int (r1 + r2)), (0, .ref (ad 0)), (1, .int a1), (2, .int a2)]) X.1 X.2.1 (dck_at da_X12_value 29 rfl) rfl hl (by decide) rfl (fun ls hl => ?_)
  refine lv_aload_n X.1 X.2.1 (dck_at da_X12_value 30 rfl) rfl (lv_at hl 1 rfl) ?_
  refine gr_getI X G Y fk_RX12_107 clM_0 rfl (dck_at da_X12_value 31 rfl) ?_
  refine lv_iload_n X.1 X.2.1 (dck_at da_X12_value 32 rfl) rfl (lv_at hl 0 rfl) ?_
  refine lv_aload_n X.1 X.2.1 (dck_at da_X12_value 33 rfl) rfl (lv_at hl 1 rfl) ?_
  refine gr_getR X G Y fk_RX12_47 clM_0 rfl (dck_at da_X12_value 34 rfl) ?_
  refine lv_iload_n X.1 X.2.1 (dck_at da_X12_value 35 rfl) rfl (lv_at hl 2 rfl) ?_
  obtain ⟨hin, h⟩ := gI_if h
  refine gr_iald X G Y clM_13 hin (dck_at da_X12_value 36 rfl) ?_
  refine lv_imul X.1 X.2.1 (dck_at da_X12_value 37 rfl) ?_
  refine lv_iadd X.1 X.2.1 (dck_at da_X12_value 38 rfl) ?_
  refine lv_istore (lv' := [(4, .int ((s2.1 0 13) + ((r1 + r2) * (s2.1 13 (a1).toNatClampNeg)))), (3, .int (r1 + r2)), (0, .ref (ad 0)), (1, .int a1), (2, .int a2)]) X.1 X.2.1 (dck_at da_X12_value 39 rfl) hl (by decide) rfl (fun ls hl => ?_)
  refine lv_aload_n X.1 X.2.1 (dck_at da_X12_value 40 rfl) rfl (lv_at hl 2 rfl) ?_
  refine lv_aload_n X.1 X.2.1 (dck_at da_X12_value 41 rfl) rfl (lv_at hl 2 rfl) ?_
  refine gr_getR X G Y fk_RX12_41 clM_0 rfl (dck_at da_X12_value 42 rfl) ?_
  refine lv_iload_n X.1 X.2.1 (dck_at da_X12_value 43 rfl) rfl (lv_at hl 3 rfl) ?_
  obtain ⟨hin, h⟩ := gI_if h
  refine gr_iald X G Y clM_11 hin (dck_at da_X12_value 44 rfl) ?_
  refine lv_aload_n X.1 X.2.1 (dck_at da_X12_value 45 rfl) rfl (lv_at hl 2 rfl) ?_
  refine gr_getR X G Y fk_RX12_50 clM_0 rfl (dck_at da_X12_value 46 rfl) ?_
  refine lv_iload_n X.1 X.2.1 (dck_at da_X12_value 47 rfl) rfl (lv_at hl 4 rfl) ?_
  obtain ⟨hin, h⟩ := gI_if h
  refine gr_iald X G Y clM_14 hin (dck_at da_X12_value 48 rfl) ?_
  refine lv_iload X.1 X.2.1 (dck_at da_X12_value 49 rfl) (lv_at hl 0 rfl) ?_
  obtain ⟨r3, s3, hc, h⟩ := gB2_some h
  refine gr_backl Y (gr_runV (as := [.int (s2.1 11 (a1).toNatClampNeg), .int (s2.1 14 (a2).toNatClampNeg), .int ((s2.1 0 13) + ((r1 + r2) * (s2.1 13 (a1).toNatClampNeg)))]) (rest := []) X G Y (ok_m_seen hc) cv_RX12_266 clM_0 ⟨Nat.le_of_ble_eq_true rfl, Nat.le_of_ble_eq_true rfl⟩ rfl hl.1 (Nat.le_of_ble_eq_true rfl) (dck_at da_X12_value 50 rfl)) (fun H locs Y => ?_)
  refine lv_aload_n X.1 X.2.1 (dck_at da_X12_value 51 rfl) rfl (lv_at hl 2 rfl) ?_
  refine lv_iload X.1 X.2.1 (dck_at da_X12_value 52 rfl) (lv_at hl 0 rfl) ?_
  obtain ⟨r4, s4, hc, h⟩ := gB2_some h
  refine gr_backi Y (gr_runV (as := [.int ((s2.1 0 13) + ((r1 + r2) * (s2.1 13 (a1).toNatClampNeg)))]) (rest := [.long r3]) X G Y (ok_m_aliveAt hc) cv_RX12_260 clM_0 ⟨Nat.le_of_ble_eq_true rfl, Nat.le_of_ble_eq_true rfl⟩ rfl hl.1 (Nat.le_of_ble_eq_true rfl) (dck_at da_X12_value 53 rfl)) (fun H locs Y => ?_)
  refine lv_i2l (v := (r4).toInt64) X.1 X.2.1 (dck_at da_X12_value 54 rfl) rfl ?_
  refine lv_lmul X.1 X.2.1 (dck_at da_X12_value 55 rfl) ?_
  exact gr_lretO X Y h hr hlk (dck_at da_X12_value 56 rfl)
set_option maxRecDepth 100000 in
set_option maxHeartbeats 4000000 in
theorem ok_m_valuesAll {l : Launch} {D : va_G} {cy : Nat → ClassId} {ad sa : Nat → Nat} {A : Nat → Prop} {F : Nat}  {s0 : St} {σ' : St} (h : m_valuesAll F s0 = some σ') : gMv l shM D cy ad sa A yX12_valuesAll cX12_valuesAll 3 none 5 [.ref (ad 0)] s0 σ' := by
  refine gM_of (by decide) (Nat.le_of_ble_eq_true rfl) ?_
  intro p e s m args below meth c ls X G Y hr hlk hl
  have hl : lv_has ls 3 [(0, .ref (ad 0))] := hl
  have b2 : ∀ n : Nat, ∀ (x1 : Int32) (s0 : St) (H : Heap) (locs : List Loc) (ls : Array Slot), m_valuesAll_L2 F  n x1 s0 = some σ' → gY shM D cy ad A s0 s H locs → lv_has ls 3 [(0, .ref (ad 0)), (1, .int x1)] → W p l e (grm 5) s m args below meth c H locs 0 0 (MQ below (va_Qv (fun (_ : Unit) => True) (fun _ t => va_P D vwCl (gWl shM cy ad σ') t.heap) A) args s 0 0 A) (F0 m 2 ls []) := by
    intro n
    induction n with
    | zero => intro x1 s0 H locs ls h Y hl; exact (gnone h).elim
    | succ n hk2 =>
      have e : m_valuesAll_L2 F  (n + 1) = m_valuesAll_L2b F  (m_valuesAll_L2 F  n) := rfl
      rw [e]; clear e
      generalize m_valuesAll_L2 F  n = k2 at hk2 ⊢
      have b12 : ∀ n : Nat, ∀ (x1 : Int32) (x2 : Int32) (s0 : St) (H : Heap) (locs : List Loc) (ls : Array Slot), m_valuesAll_L12 F k2 n x1 x2 s0 = some σ' → gY shM D cy ad A s0 s H locs → lv_has ls 3 [(0, .ref (ad 0)), (1, .int x1), (2, .int x2)] → W p l e (grm 5) s m args below meth c H locs 0 0 (MQ below (va_Qv (fun (_ : Unit) => True) (fun _ t => va_P D vwCl (gWl shM cy ad σ') t.heap) A) args s 0 0 A) (F0 m 12 ls []) := by
        intro n
        induction n with
        | zero => intro x1 x2 s0 H locs ls h Y hl; exact (gnone h).elim
        | succ n hk12 =>
          have e : m_valuesAll_L12 F k2 (n + 1) = m_valuesAll_L12b F k2 (m_valuesAll_L12 F k2 n) := rfl
          rw [e]; clear e
          generalize m_valuesAll_L12 F k2 n = k12 at hk12 ⊢
          intro x1 x2 s0 H locs ls h Y hl
          unfold m_valuesAll_L12b at h
          refine lv_iload_n X.1 X.2.1 (dck_at da_X12_valuesAll 8 rfl) rfl (lv_at hl 2 rfl) ?_
          refine lv_aload_n X.1 X.2.1 (dck_at da_X12_valuesAll 9 rfl) rfl (lv_at hl 0 rfl) ?_
          refine gr_getI X G Y fk_RX12_231 clM_0 rfl (dck_at da_X12_valuesAll 10 rfl) ?_
          refine lv_icmp_ge (tgt := 43) X.1 X.2.1 (dck_at da_X12_valuesAll 11 rfl) rfl (fun c => ?_) (fun c => ?_)
          · have h := gI_pos h c
            refine lv_iinc (v := x1 + (1 : Int32)) (lv' := [(1, .int (x1 + (1 : Int32))), (0, .ref (ad 0)), (2, .int x2)]) X.1 X.2.1 (dck_at da_X12_valuesAll 26 rfl) hl (k := 1) rfl (congrArg (HAdd.hAdd _) ki_1) (by decide) rfl (fun ls hl => ?_)
            refine lv_goto (tgt := 2) X.1 X.2.1 (dck_at da_X12_valuesAll 27 rfl) rfl ?_
            exact hk2 (x1 + (1 : Int32)) s0 _ _ _ h Y (lv_sub hl [1, 0] rfl)
          · have h := gI_neg h c
            refine lv_aload_n X.1 X.2.1 (dck_at da_X12_valuesAll 12 rfl) rfl (lv_at hl 0 rfl) ?_
            refine gr_getR X G Y fk_RX12_53 clM_0 rfl (dck_at da_X12_valuesAll 13 rfl) ?_
            refine lv_bipush X.1 X.2.1 (dck_at da_X12_valuesAll 14 rfl) kb_6 ?_
            refine lv_iload_n X.1 X.2.1 (dck_at da_X12_valuesAll 15 rfl) rfl (lv_at hl 1 rfl) ?_
            refine lv_imul X.1 X.2.1 (dck_at da_X12_valuesAll 16 rfl) ?_
            refine lv_iload_n X.1 X.2.1 (dck_at da_X12_valuesAll 17 rfl) rfl (lv_at hl 2 rfl) ?_
            refine lv_iadd X.1 X.2.1 (dck_at da_X12_valuesAll 18 rfl) ?_
            refine lv_aload_n X.1 X.2.1 (dck_at da_X12_valuesAll 19 rfl) rfl (lv_at hl 0 rfl) ?_
            refine lv_iload_n X.1 X.2.1 (dck_at da_X12_valuesAll 20 rfl) rfl (lv_at hl 1 rfl) ?_
            refine lv_iload_n X.1 X.2.1 (dck_at da_X12_valuesAll 21 rfl) rfl (lv_at hl 2 rfl) ?_
            obtain ⟨r1, s1, hc, h⟩ := gB2_some h
            refine gr_backl Y (gr_runV (as := [.int x1, .int x2]) (rest := [.int (((6 : Int32) * x1) + x2), .ref (ad 15)]) X G Y (ok_m_value hc) cv_RX12_270 clM_0 ⟨Nat.le_of_ble_eq_true rfl, Nat.le_of_ble_eq_true rfl⟩ rfl hl.1 (Nat.le_of_ble_eq_true rfl) (dck_at da_X12_valuesAll 22 rfl)) (fun H locs Y => ?_)
            obtain ⟨hin, h⟩ := gI_if h
            refine gr_last X G Y clM_15 hin (dck_at da_X12_valuesAll 23 rfl) (fun H locs Y => ?_)
            refine lv_iinc (v := x2 + (1 : Int32)) (lv' := [(2, .int (x2 + (1 : Int32))), (0, .ref (ad 0)), (1, .int x1)]) X.1 X.2.1 (dck_at da_X12_valuesAll 24 rfl) hl (k := 2) rfl (congrArg (HAdd.hAdd _) ki_1) (by decide) rfl (fun ls hl => ?_)
            refine lv_goto (tgt := 12) X.1 X.2.1 (dck_at da_X12_valuesAll 25 rfl) rfl ?_
            exact hk12 x1 (x2 + (1 : Int32)) (sJ s1 15 (((6 : Int32) * x1) + x2).toNatClampNeg r1) _ _ _ h Y (lv_sub hl [1, 2, 0] rfl)
      intro x1 s0 H locs ls h Y hl
      unfold m_valuesAll_L2b at h
      refine lv_iload_n X.1 X.2.1 (dck_at da_X12_valuesAll 2 rfl) rfl (lv_at hl 1 rfl) ?_
      refine lv_aload_n X.1 X.2.1 (dck_at da_X12_valuesAll 3 rfl) rfl (lv_at hl 0 rfl) ?_
      refine gr_getI X G Y fk_RX12_228 clM_0 rfl (dck_at da_X12_valuesAll 4 rfl) ?_
      refine lv_icmp_ge (tgt := 49) X.1 X.2.1 (dck_at da_X12_valuesAll 5 rfl) rfl (fun c => ?_) (fun c => ?_)
      · have h := gI_pos h c
        exact gr_vretO X Y h hr hlk (dck_at da_X12_valuesAll 28 rfl)
      · have h := gI_neg h c
        refine lv_iconst X.1 X.2.1 (dck_at da_X12_valuesAll 6 rfl) ki_0 ?_
        refine lv_istore_n (lv' := [(2, .int (0 : Int32)), (0, .ref (ad 0)), (1, .int x1)]) X.1 X.2.1 (dck_at da_X12_valuesAll 7 rfl) rfl hl (by decide) rfl (fun ls hl => ?_)
        exact b12 F x1 (0 : Int32) s0 _ _ _ h Y (lv_sub hl [1, 2, 0] rfl)
  unfold m_valuesAll at h
  refine lv_iconst X.1 X.2.1 (dck_at da_X12_valuesAll 0 rfl) ki_0 ?_
  refine lv_istore_n (lv' := [(1, .int (0 : Int32)), (0, .ref (ad 0))]) X.1 X.2.1 (dck_at da_X12_valuesAll 1 rfl) rfl hl (by decide) rfl (fun ls hl => ?_)
  exact b2 F (0 : Int32) s0 _ _ _ h Y (lv_sub hl [1, 0] rfl)
set_option maxRecDepth 100000 in
set_option maxHeartbeats 4000000 in
theorem ok_m_whom {l : Launch} {D : va_G} {cy : Nat → ClassId} {ad sa : Nat → Nat} {A : Nat → Prop} {F : Nat} {a1 : Int32} {s0 : St} {ρ : Int64} {σ' : St} (h : m_whom F a1 s0 = some (ρ, σ')) : gMl l shM D cy ad sa A yX12_whom cX12_whom 14 (some .long) 6 [.ref (ad 0), .int a1] s0 ρ σ' := by
  refine gM_of (by decide) (Nat.le_of_ble_eq_true rfl) ?_
  intro p e s m args below meth c ls X G Y hr hlk hl
  have hl : lv_has ls 14 [(0, .ref (ad 0)), (1, .int a1)] := hl
  have b52 : ∀  (s0 : St) (H : Heap) (locs : List Loc) (ls : Array Slot), m_whom_J52 F  s0 = some (ρ, σ') → gY shM D cy ad A s0 s H locs → lv_has ls 14 [(0, .ref (ad 0))] → W p l e (grm 6) s m args below meth c H locs 0 0 (MQ below (va_Ql (fun (q : Int64) (_ : Unit) => q = ρ) (fun _ t => va_P D vwCl (gWl shM cy ad σ') t.heap) A) args s 0 0 A) (F0 m 52 ls []) := by
    intro s0 H locs ls h Y hl
    unfold m_whom_J52 at h
    refine lv_aload_n X.1 X.2.1 (dck_at da_X12_whom 24 rfl) rfl (lv_at hl 0 rfl) ?_
    refine lv_ldc2 X.1 X.2.1 X.2.2.2.1 (X.2.2.2.2 _ wm_1408) (dck_at da_X12_whom 25 rfl) ?_
    obtain ⟨r1, s1, hc, h⟩ := gB2_some h
    refine gr_backl Y (gr_runV (as := [.long (-4 : Int64)]) (rest := []) X G Y (ok_m_says hc) cv_RX12_120 clM_0 ⟨Nat.le_of_ble_eq_true rfl, Nat.le_of_ble_eq_true rfl⟩ rfl hl.1 (Nat.le_of_ble_eq_true rfl) (dck_at da_X12_whom 26 rfl)) (fun H locs Y => ?_)
    exact gr_lretO X Y h hr hlk (dck_at da_X12_whom 27 rfl)
  have b307 : ∀ (x1 : Int32) (x3 : Int64) (x5 : Int32) (s0 : St) (H : Heap) (locs : List Loc) (ls : Array Slot), m_whom_J307 F  x1 x3 x5 s0 = some (ρ, σ') → gY shM D cy ad A s0 s H locs → lv_has ls 14 [(1, .int x1), (3, .long x3), (5, .int x5)] → W p l e (grm 6) s m args below meth c H locs 0 0 (MQ below (va_Ql (fun (q : Int64) (_ : Unit) => q = ρ) (fun _ t => va_P D vwCl (gWl shM cy ad σ') t.heap) A) args s 0 0 A) (F0 m 307 ls []) := by
    intro x1 x3 x5 s0 H locs ls h Y hl
    unfold m_whom_J307 at h
    refine lv_iload_n X.1 X.2.1 (dck_at da_X12_whom 159 rfl) rfl (lv_at hl 0 rfl) ?_
    refine lv_if_ge (tgt := 315) X.1 X.2.1 (dck_at da_X12_whom 160 rfl) rfl (fun c => ?_) (fun c => ?_)
    · have h := gI_pos h c
      refine lv_iload X.1 X.2.1 (dck_at da_X12_whom 163 rfl) (lv_at hl 2 rfl) ?_
      refine lv_bipush X.1 X.2.1 (dck_at da_X12_whom 164 rfl) kb_7 ?_
      refine lv_irem X.1 X.2.1 (dck_at da_X12_whom 165 rfl) (by decide) ?_
      refine lv_i2l (v := (x5 - x5 / (7 : Int32) * (7 : Int32)).toInt64) X.1 X.2.1 (dck_at da_X12_whom 166 rfl) rfl ?_
      exact gr_lretO X Y h hr hlk (dck_at da_X12_whom 167 rfl)
    · have h := gI_neg h c
      refine lv_lload_n X.1 X.2.1 (dck_at da_X12_whom 161 rfl) rfl (lv_at hl 1 rfl) ?_
      refine lv_goto (tgt := 321) X.1 X.2.1 (dck_at da_X12_whom 162 rfl) rfl ?_
      exact gr_lretO X Y h hr hlk (dck_at da_X12_whom 167 rfl)
  have b284 : ∀ n : Nat, ∀ (x1 : Int32) (x3 : Int64) (x5 : Int32) (x6 : Int32) (s0 : St) (H : Heap) (locs : List Loc) (ls : Array Slot), m_whom_L284 F  n x1 x3 x5 x6 s0 = some (ρ, σ') → gY shM D cy ad A s0 s H locs → lv_has ls 14 [(1, .int x1), (3, .long x3), (5, .int x5), (6, .int x6)] → W p l e (grm 6) s m args below meth c H locs 0 0 (MQ below (va_Ql (fun (q : Int64) (_ : Unit) => q = ρ) (fun _ t => va_P D vwCl (gWl shM cy ad σ') t.heap) A) args s 0 0 A) (F0 m 284 ls []) := by
    intro n
    induction n with
    | zero => intro x1 x3 x5 x6 s0 H locs ls h Y hl; exact (gnone h).elim
    | succ n hk284 =>
      have e : m_whom_L284 F  (n + 1) = m_whom_L284b F  (m_whom_L284 F  n) := rfl
      rw [e]; clear e
      generalize m_whom_L284 F  n = k284 at hk284 ⊢
      intro x1 x3 x5 x6 s0 H locs ls h Y hl
      unfold m_whom_L284b at h
      refine lv_iload X.1 X.2.1 (dck_at da_X12_whom 148 rfl) (lv_at hl 3 rfl) ?_
      refine lv_iload_n X.1 X.2.1 (dck_at da_X12_whom 149 rfl) rfl (lv_at hl 0 rfl) ?_
      refine lv_icmp_le (tgt := 307) X.1 X.2.1 (dck_at da_X12_whom 150 rfl) rfl (fun c => ?_) (fun c => ?_)
      · have h := gI_pos h c
        exact b307 x1 x3 x5 s0 _ _ _ h Y (lv_sub hl [0, 1, 2] rfl)
      · have h := gI_neg h c
        refine lv_iload_n X.1 X.2.1 (dck_at da_X12_whom 151 rfl) rfl (lv_at hl 0 rfl) ?_
        refine lv_if_lt (tgt := 307) X.1 X.2.1 (dck_at da_X12_whom 152 rfl) rfl (fun c => ?_) (fun c => ?_)
        · have h := gI_pos h c
          exact b307 x1 x3 x5 s0 _ _ _ h Y (lv_sub hl [0, 1, 2] rfl)
        · have h := gI_neg h c
          refine lv_iload X.1 X.2.1 (dck_at da_X12_whom 153 rfl) (lv_at hl 2 rfl) ?_
          refine lv_bipush X.1 X.2.1 (dck_at da_X12_whom 154 rfl) kb_7 ?_
          refine lv_idiv X.1 X.2.1 (dck_at da_X12_whom 155 rfl) (by decide) ?_
          refine lv_istore (lv' := [(5, .int (x5 / (7 : Int32))), (1, .int x1), (3, .long x3), (6, .int x6)]) X.1 X.2.1 (dck_at da_X12_whom 156 rfl) hl (by decide) rfl (fun ls hl => ?_)
          refine lv_iinc (v := x6 + (-1 : Int32)) (lv' := [(6, .int (x6 + (-1 : Int32))), (5, .int (x5 / (7 : Int32))), (1, .int x1), (3, .long x3)]) X.1 X.2.1 (dck_at da_X12_whom 157 rfl) hl (k := 3) rfl (congrArg (HAdd.hAdd _) ki_m1) (by decide) rfl (fun ls hl => ?_)
          refine lv_goto (tgt := 284) X.1 X.2.1 (dck_at da_X12_whom 158 rfl) rfl ?_
          exact hk284 x1 x3 (x5 / (7 : Int32)) (x6 + (-1 : Int32)) s0 _ _ _ h Y (lv_sub hl [2, 3, 1, 0] rfl)
  have b97 : ∀ n : Nat, ∀ (x1 : Int32) (x2 : Int32) (x3 : Int64) (x5 : Int32) (x6 : Int32) (s0 : St) (H : Heap) (locs : List Loc) (ls : Array Slot), m_whom_L97 F  n x1 x2 x3 x5 x6 s0 = some (ρ, σ') → gY shM D cy ad A s0 s H locs → lv_has ls 14 [(0, .ref (ad 0)), (1, .int x1), (2, .int x2), (3, .long x3), (5, .int x5), (6, .int x6)] → W p l e (grm 6) s m args below meth c H locs 0 0 (MQ below (va_Ql (fun (q : Int64) (_ : Unit) => q = ρ) (fun _ t => va_P D vwCl (gWl shM cy ad σ') t.heap) A) args s 0 0 A) (F0 m 97 ls []) := by
    intro n
    induction n with
    | zero => intro x1 x2 x3 x5 x6 s0 H locs ls h Y hl; exact (gnone h).elim
    | succ n hk97 =>
      have e : m_whom_L97 F  (n + 1) = m_whom_L97b F  (m_whom_L97 F  n) := rfl
      rw [e]; clear e
      generalize m_whom_L97 F  n = k97 at hk97 ⊢
      have b269 : ∀ (x1 : Int32) (x2 : Int32) (x5 : Int32) (x6 : Int32) (y0 : Int64) (s0 : St) (H : Heap) (locs : List Loc) (ls : Array Slot), m_whom_J269 F k97 x1 x2 x5 x6 y0 s0 = some (ρ, σ') → gY shM D cy ad A s0 s H locs → lv_has ls 14 [(0, .ref (ad 0)), (1, .int x1), (2, .int x2), (5, .int x5), (6, .int x6)] → W p l e (grm 6) s m args below meth c H locs 0 0 (MQ below (va_Ql (fun (q : Int64) (_ : Unit) => q = ρ) (fun _ t => va_P D vwCl (gWl shM cy ad σ') t.heap) A) args s 0 0 A) (F0 m 269 ls [.long y0]) := by
        intro x1 x2 x5 x6 y0 s0 H locs ls h Y hl
        unfold m_whom_J269 at h
        refine lv_lstore_n (lv' := [(3, .long y0), (0, .ref (ad 0)), (1, .int x1), (2, .int x2), (5, .int x5), (6, .int x6)]) X.1 X.2.1 (dck_at da_X12_whom 140 rfl) rfl hl (by decide) rfl (fun ls hl => ?_)
        refine lv_iinc (v := x6 + (1 : Int32)) (lv' := [(6, .int (x6 + (1 : Int32))), (3, .long y0), (0, .ref (ad 0)), (1, .int x1), (2, .int x2), (5, .int x5)]) X.1 X.2.1 (dck_at da_X12_whom 141 rfl) hl (k := 5) rfl (congrArg (HAdd.hAdd _) ki_1) (by decide) rfl (fun ls hl => ?_)
        refine lv_goto (tgt := 97) X.1 X.2.1 (dck_at da_X12_whom 142 rfl) rfl ?_
        exact hk97 x1 x2 y0 x5 (x6 + (1 : Int32)) s0 _ _ _ h Y (lv_sub hl [2, 3, 4, 1, 5, 0] rfl)
      have b268 : ∀ (x1 : Int32) (x2 : Int32) (x3 : Int64) (x5 : Int32) (x6 : Int32) (s0 : St) (H : Heap) (locs : List Loc) (ls : Array Slot), m_whom_J268 F k97 x1 x2 x3 x5 x6 s0 = some (ρ, σ') → gY shM D cy ad A s0 s H locs → lv_has ls 14 [(0, .ref (ad 0)), (1, .int x1), (2, .int x2), (3, .long x3), (5, .int x5), (6, .int x6)] → W p l e (grm 6) s m args below meth c H locs 0 0 (MQ below (va_Ql (fun (q : Int64) (_ : Unit) => q = ρ) (fun _ t => va_P D vwCl (gWl shM cy ad σ') t.heap) A) args s 0 0 A) (F0 m 268 ls []) := by
        intro x1 x2 x3 x5 x6 s0 H locs ls h Y hl
        unfold m_whom_J268 at h
        refine lv_lload_n X.1 X.2.1 (dck_at da_X12_whom 139 rfl) rfl (lv_at hl 3 rfl) ?_
        exact b269 x1 x2 x5 x6 x3 s0 _ _ _ h Y (lv_sub hl [0, 1, 2, 4, 5] rfl)
      have b249 : ∀ (x1 : Int32) (x2 : Int32) (x3 : Int64) (x6 : Int32) (x7 : Int64) (x10 : Int32) (y0 : Int32) (s0 : St) (H : Heap) (locs : List Loc) (ls : Array Slot), m_whom_J249 F k97 x1 x2 x3 x6 x7 x10 y0 s0 = some (ρ, σ') → gY shM D cy ad A s0 s H locs → lv_has ls 14 [(0, .ref (ad 0)), (1, .int x1), (2, .int x2), (3, .long x3), (6, .int x6), (7, .long x7), (10, .int x10)] → W p l e (grm 6) s m args below meth c H locs 0 0 (MQ below (va_Ql (fun (q : Int64) (_ : Unit) => q = ρ) (fun _ t => va_P D vwCl (gWl shM cy ad σ') t.heap) A) args s 0 0 A) (F0 m 249 ls [.int y0]) := by
        intro x1 x2 x3 x6 x7 x10 y0 s0 H locs ls h Y hl
        unfold m_whom_J249 at h
        refine lv_istore (lv' := [(5, .int y0), (0, .ref (ad 0)), (1, .int x1), (2, .int x2), (3, .long x3), (6, .int x6), (7, .long x7), (10, .int x10)]) X.1 X.2.1 (dck_at da_X12_whom 130 rfl) hl (by decide) rfl (fun ls hl => ?_)
        refine lv_iload X.1 X.2.1 (dck_at da_X12_whom 131 rfl) (lv_at hl 7 rfl) ?_
        refine lv_if_eq (tgt := 268) X.1 X.2.1 (dck_at da_X12_whom 132 rfl) rfl (fun c => ?_) (fun c => ?_)
        · have h := gI_pos h c
          exact b268 x1 x2 x3 y0 x6 s0 _ _ _ h Y (lv_sub hl [1, 2, 3, 4, 0, 5] rfl)
        · have h := gI_neg h c
          refine lv_lload X.1 X.2.1 (dck_at da_X12_whom 133 rfl) (lv_at hl 6 rfl) ?_
          refine lv_lload_n X.1 X.2.1 (dck_at da_X12_whom 134 rfl) rfl (lv_at hl 4 rfl) ?_
          refine W.lcmp X.1 X.2.1 (dck_at da_X12_whom 135 rfl) ?_
          refine lv_if_le (tgt := 268) X.1 X.2.1 (dck_at da_X12_whom 136 rfl) rfl (fun c => ?_) (fun c => ?_)
          · have h := gI_pos h c
            exact b268 x1 x2 x3 y0 x6 s0 _ _ _ h Y (lv_sub hl [1, 2, 3, 4, 0, 5] rfl)
          · have h := gI_neg h c
            refine lv_lload X.1 X.2.1 (dck_at da_X12_whom 137 rfl) (lv_at hl 6 rfl) ?_
            refine lv_goto (tgt := 269) X.1 X.2.1 (dck_at da_X12_whom 138 rfl) rfl ?_
            exact b269 x1 x2 y0 x6 x7 s0 _ _ _ h Y (lv_sub hl [1, 2, 3, 0, 5] rfl)
      have b247 : ∀ (x1 : Int32) (x2 : Int32) (x3 : Int64) (x5 : Int32) (x6 : Int32) (x7 : Int64) (x10 : Int32) (s0 : St) (H : Heap) (locs : List Loc) (ls : Array Slot), m_whom_J247 F k97 x1 x2 x3 x5 x6 x7 x10 s0 = some (ρ, σ') → gY shM D cy ad A s0 s H locs → lv_has ls 14 [(0, .ref (ad 0)), (1, .int x1), (2, .int x2), (3, .long x3), (5, .int x5), (6, .int x6), (7, .long x7), (10, .int x10)] → W p l e (grm 6) s m args below meth c H locs 0 0 (MQ below (va_Ql (fun (q : Int64) (_ : Unit) => q = ρ) (fun _ t => va_P D vwCl (gWl shM cy ad σ') t.heap) A) args s 0 0 A) (F0 m 247 ls []) := by
        intro x1 x2 x3 x5 x6 x7 x10 s0 H locs ls h Y hl
        unfold m_whom_J247 at h
        refine lv_iload X.1 X.2.1 (dck_at da_X12_whom 129 rfl) (lv_at hl 4 rfl) ?_
        exact b249 x1 x2 x3 x6 x7 x10 x5 s0 _ _ _ h Y (lv_sub hl [0, 1, 2, 3, 5, 6, 7] rfl)
      have b124 : ∀ n : Nat, ∀ (x1 : Int32) (x2 : Int32) (x3 : Int64) (x5 : Int32) (x6 : Int32) (x7 : Int64) (x9 : Int32) (x10 : Int32) (x11 : Int32) (x12 : Int32) (s0 : St) (H : Heap) (locs : List Loc) (ls : Array Slot), m_whom_L124 F k97 n x1 x2 x3 x5 x6 x7 x9 x10 x11 x12 s0 = some (ρ, σ') → gY shM D cy ad A s0 s H locs → lv_has ls 14 [(0, .ref (ad 0)), (1, .int x1), (2, .int x2), (3, .long x3), (5, .int x5), (6, .int x6), (7, .long x7), (9, .int x9), (10, .int x10), (11, .int x11), (12, .int x12)] → W p l e (grm 6) s m args below meth c H locs 0 0 (MQ below (va_Ql (fun (q : Int64) (_ : Unit) => q = ρ) (fun _ t => va_P D vwCl (gWl shM cy ad σ') t.heap) A) args s 0 0 A) (F0 m 124 ls []) := by
        intro n
        induction n with
        | zero => intro x1 x2 x3 x5 x6 x7 x9 x10 x11 x12 s0 H locs ls h Y hl; exact (gnone h).elim
        | succ n hk124 =>
          have e : m_whom_L124 F k97 (n + 1) = m_whom_L124b F k97 (m_whom_L124 F k97 n) := rfl
          rw [e]; clear e
          generalize m_whom_L124 F k97 n = k124 at hk124 ⊢
          have b221 : ∀ (x1 : Int32) (x2 : Int32) (x3 : Int64) (x5 : Int32) (x6 : Int32) (x9 : Int32) (x10 : Int32) (x11 : Int32) (x12 : Int32) (y0 : Int64) (y1 : Int64) (s0 : St) (H : Heap) (locs : List Loc) (ls : Array Slot), m_whom_J221 F k97 k124 x1 x2 x3 x5 x6 x9 x10 x11 x12 y0 y1 s0 = some (ρ, σ') → gY shM D cy ad A s0 s H locs → lv_has ls 14 [(0, .ref (ad 0)), (1, .int x1), (2, .int x2), (3, .long x3), (5, .int x5), (6, .int x6), (9, .int x9), (10, .int x10), (11, .int x11), (12, .int x12)] → W p l e (grm 6) s m args below meth c H locs 0 0 (MQ below (va_Ql (fun (q : Int64) (_ : Unit) => q = ρ) (fun _ t => va_P D vwCl (gWl shM cy ad σ') t.heap) A) args s 0 0 A) (F0 m 221 ls [.long y1, .long y0]) := by
            intro x1 x2 x3 x5 x6 x9 x10 x11 x12 y0 y1 s0 H locs ls h Y hl
            unfold m_whom_J221 at h
            refine lv_ladd X.1 X.2.1 (dck_at da_X12_whom 117 rfl) ?_
            refine lv_lstore (lv' := [(7, .long (y0 + y1)), (0, .ref (ad 0)), (1, .int x1), (2, .int x2), (3, .long x3), (5, .int x5), (6, .int x6), (9, .int x9), (10, .int x10), (11, .int x11), (12, .int x12)]) X.1 X.2.1 (dck_at da_X12_whom 118 rfl) hl (by decide) rfl (fun ls hl => ?_)
            refine lv_iinc (v := x12 + (-1 : Int32)) (lv' := [(12, .int (x12 + (-1 : Int32))), (7, .long (y0 + y1)), (0, .ref (ad 0)), (1, .int x1), (2, .int x2), (3, .long x3), (5, .int x5), (6, .int x6), (9, .int x9), (10, .int x10), (11, .int x11)]) X.1 X.2.1 (dck_at da_X12_whom 119 rfl) hl (k := 10) rfl (congrArg (HAdd.hAdd _) ki_m1) (by decide) rfl (fun ls hl => ?_)
            refine lv_goto (tgt := 124) X.1 X.2.1 (dck_at da_X12_whom 120 rfl) rfl ?_
            exact hk124 x1 x2 x3 x5 x6 (y0 + y1) x9 x10 x11 (x12 + (-1 : Int32)) s0 _ _ _ h Y (lv_sub hl [2, 3, 4, 5, 6, 7, 1, 8, 9, 10, 0] rfl)
          have b220 : ∀ (x1 : Int32) (x2 : Int32) (x3 : Int64) (x5 : Int32) (x6 : Int32) (x9 : Int32) (x10 : Int32) (x11 : Int32) (x12 : Int32) (y0 : Int64) (s0 : St) (H : Heap) (locs : List Loc) (ls : Array Slot), m_whom_J220 F k97 k124 x1 x2 x3 x5 x6 x9 x10 x11 x12 y0 s0 = some (ρ, σ') → gY shM D cy ad A s0 s H locs → lv_has ls 14 [(0, .ref (ad 0)), (1, .int x1), (2, .int x2), (3, .long x3), (5, .int x5), (6, .int x6), (9, .int x9), (10, .int x10), (11, .int x11), (12, .int x12)] → W p l e (grm 6) s m args below meth c H locs 0 0 (MQ below (va_Ql (fun (q : Int64) (_ : Unit) => q = ρ) (fun _ t => va_P D vwCl (gWl shM cy ad σ') t.heap) A) args s 0 0 A) (F0 m 220 ls [.long y0]) := by
            intro x1 x2 x3 x5 x6 x9 x10 x11 x12 y0 s0 H locs ls h Y hl
            unfold m_whom_J220 at h
            refine lv_lconst (v := 0) X.1 X.2.1 (dck_at da_X12_whom 116 rfl) rfl ?_
            exact b221 x1 x2 x3 x5 x6 x9 x10 x11 x12 y0 (0 : Int64) s0 _ _ _ h Y (lv_sub hl [0, 1, 2, 3, 4, 5, 6, 7, 8, 9] rfl)
          have b179 : ∀ (x1 : Int32) (x2 : Int32) (x3 : Int64) (x5 : Int32) (x6 : Int32) (x7 : Int64) (x9 : Int32) (x11 : Int32) (x12 : Int32) (x13 : Int32) (y0 : Int32) (s0 : St) (H : Heap) (locs : List Loc) (ls : Array Slot), m_whom_J179 F k97 k124 x1 x2 x3 x5 x6 x7 x9 x11 x12 x13 y0 s0 = some (ρ, σ') → gY shM D cy ad A s0 s H locs → lv_has ls 14 [(0, .ref (ad 0)), (1, .int x1), (2, .int x2), (3, .long x3), (5, .int x5), (6, .int x6), (7, .long x7), (9, .int x9), (11, .int x11), (12, .int x12), (13, .int x13)] → W p l e (grm 6) s m args below meth c H locs 0 0 (MQ below (va_Ql (fun (q : Int64) (_ : Unit) => q = ρ) (fun _ t => va_P D vwCl (gWl shM cy ad σ') t.heap) A) args s 0 0 A) (F0 m 179 ls [.int y0]) := by
            intro x1 x2 x3 x5 x6 x7 x9 x11 x12 x13 y0 s0 H locs ls h Y hl
            unfold m_whom_J179 at h
            refine lv_istore (lv' := [(10, .int y0), (0, .ref (ad 0)), (1, .int x1), (2, .int x2), (3, .long x3), (5, .int x5), (6, .int x6), (7, .long x7), (9, .int x9), (11, .int x11), (12, .int x12), (13, .int x13)]) X.1 X.2.1 (dck_at da_X12_whom 94 rfl) hl (by decide) rfl (fun ls hl => ?_)
            refine lv_iload X.1 X.2.1 (dck_at da_X12_whom 95 rfl) (lv_at hl 8 rfl) ?_
            refine lv_iconst X.1 X.2.1 (dck_at da_X12_whom 96 rfl) ki_1 ?_
            refine lv_iload X.1 X.2.1 (dck_at da_X12_whom 97 rfl) (lv_at hl 11 rfl) ?_
            refine lv_ishl X.1 X.2.1 (dck_at da_X12_whom 98 rfl) ?_
            refine lv_ior X.1 X.2.1 (dck_at da_X12_whom 99 rfl) ?_
            refine lv_istore (lv' := [(9, .int (x9 ||| ((1 : Int32) <<< (x13 &&& 31)))), (10, .int y0), (0, .ref (ad 0)), (1, .int x1), (2, .int x2), (3, .long x3), (5, .int x5), (6, .int x6), (7, .long x7), (11, .int x11), (12, .int x12), (13, .int x13)]) X.1 X.2.1 (dck_at da_X12_whom 100 rfl) hl (by decide) rfl (fun ls hl => ?_)
            refine lv_lload X.1 X.2.1 (dck_at da_X12_whom 101 rfl) (lv_at hl 8 rfl) ?_
            refine lv_iload X.1 X.2.1 (dck_at da_X12_whom 102 rfl) (lv_at hl 1 rfl) ?_
            refine lv_if_eq (tgt := 220) X.1 X.2.1 (dck_at da_X12_whom 103 rfl) rfl (fun c => ?_) (fun c => ?_)
            · have h := gI_pos h c
              exact b220 x1 x2 x3 x5 x6 (x9 ||| ((1 : Int32) <<< (x13 &&& 31))) y0 x11 x12 x7 s0 _ _ _ h Y (lv_sub hl [2, 3, 4, 5, 6, 7, 0, 1, 9, 10] rfl)
            · have h := gI_neg h c
              refine lv_iload X.1 X.2.1 (dck_at da_X12_whom 104 rfl) (lv_at hl 11 rfl) ?_
              refine lv_bipush X.1 X.2.1 (dck_at da_X12_whom 105 rfl) kb_6 ?_
              refine lv_icmp_ge (tgt := 220) X.1 X.2.1 (dck_at da_X12_whom 106 rfl) rfl (fun c => ?_) (fun c => ?_)
              · have h := gI_pos h c
                exact b220 x1 x2 x3 x5 x6 (x9 ||| ((1 : Int32) <<< (x13 &&& 31))) y0 x11 x12 x7 s0 _ _ _ h Y (lv_sub hl [2, 3, 4, 5, 6, 7, 0, 1, 9, 10] rfl)
              · have h := gI_neg h c
                refine lv_aload_n X.1 X.2.1 (dck_at da_X12_whom 107 rfl) rfl (lv_at hl 2 rfl) ?_
                refine gr_getR X G Y fk_RX12_53 clM_0 rfl (dck_at da_X12_whom 108 rfl) ?_
                refine lv_bipush X.1 X.2.1 (dck_at da_X12_whom 109 rfl) kb_6 ?_
                refine lv_iload X.1 X.2.1 (dck_at da_X12_whom 110 rfl) (lv_at hl 10 rfl) ?_
                refine lv_imul X.1 X.2.1 (dck_at da_X12_whom 111 rfl) ?_
                refine lv_iload X.1 X.2.1 (dck_at da_X12_whom 112 rfl) (lv_at hl 11 rfl) ?_
                refine lv_iadd X.1 X.2.1 (dck_at da_X12_whom 113 rfl) ?_
                obtain ⟨hin, h⟩ := gI_if h
                refine gr_lald X G Y clM_15 hin (dck_at da_X12_whom 114 rfl) ?_
                refine lv_goto (tgt := 221) X.1 X.2.1 (dck_at da_X12_whom 115 rfl) rfl ?_
                exact b221 x1 x2 x3 x5 x6 (x9 ||| ((1 : Int32) <<< (x13 &&& 31))) y0 x11 x12 x7 (s0.2 15 (((6 : Int32) * x12) + x13).toNatClampNeg) s0 _ _ _ h Y (lv_sub hl [2, 3, 4, 5, 6, 7, 0, 1, 9, 10] rfl)
          have b178 : ∀ (x1 : Int32) (x2 : Int32) (x3 : Int64) (x5 : Int32) (x6 : Int32) (x7 : Int64) (x9 : Int32) (x11 : Int32) (x12 : Int32) (x13 : Int32) (s0 : St) (H : Heap) (locs : List Loc) (ls : Array Slot), m_whom_J178 F k97 k124 x1 x2 x3 x5 x6 x7 x9 x11 x12 x13 s0 = some (ρ, σ') → gY shM D cy ad A s0 s H locs → lv_has ls 14 [(0, .ref (ad 0)), (1, .int x1), (2, .int x2), (3, .long x3), (5, .int x5), (6, .int x6), (7, .long x7), (9, .int x9), (11, .int x11), (12, .int x12), (13, .int x13)] → W p l e (grm 6) s m args below meth c H locs 0 0 (MQ below (va_Ql (fun (q : Int64) (_ : Unit) => q = ρ) (fun _ t => va_P D vwCl (gWl shM cy ad σ') t.heap) A) args s 0 0 A) (F0 m 178 ls []) := by
            intro x1 x2 x3 x5 x6 x7 x9 x11 x12 x13 s0 H locs ls h Y hl
            unfold m_whom_J178 at h
            refine lv_iconst X.1 X.2.1 (dck_at da_X12_whom 93 rfl) ki_0 ?_
            exact b179 x1 x2 x3 x5 x6 x7 x9 x11 x12 x13 (0 : Int32) s0 _ _ _ h Y (lv_sub hl [0, 1, 2, 3, 4, 5, 6, 7, 8, 9, 10] rfl)
          have b174 : ∀ (x1 : Int32) (x2 : Int32) (x3 : Int64) (x5 : Int32) (x6 : Int32) (x7 : Int64) (x9 : Int32) (x11 : Int32) (x12 : Int32) (x13 : Int32) (s0 : St) (H : Heap) (locs : List Loc) (ls : Array Slot), m_whom_J174 F k97 k124 x1 x2 x3 x5 x6 x7 x9 x11 x12 x13 s0 = some (ρ, σ') → gY shM D cy ad A s0 s H locs → lv_has ls 14 [(0, .ref (ad 0)), (1, .int x1), (2, .int x2), (3, .long x3), (5, .int x5), (6, .int x6), (7, .long x7), (9, .int x9), (11, .int x11), (12, .int x12), (13, .int x13)] → W p l e (grm 6) s m args below meth c H locs 0 0 (MQ below (va_Ql (fun (q : Int64) (_ : Unit) => q = ρ) (fun _ t => va_P D vwCl (gWl shM cy ad σ') t.heap) A) args s 0 0 A) (F0 m 174 ls []) := by
            intro x1 x2 x3 x5 x6 x7 x9 x11 x12 x13 s0 H locs ls h Y hl
            unfold m_whom_J174 at h
            refine lv_iconst X.1 X.2.1 (dck_at da_X12_whom 91 rfl) ki_1 ?_
            refine lv_goto (tgt := 179) X.1 X.2.1 (dck_at da_X12_whom 92 rfl) rfl ?_
            exact b179 x1 x2 x3 x5 x6 x7 x9 x11 x12 x13 (1 : Int32) s0 _ _ _ h Y (lv_sub hl [0, 1, 2, 3, 4, 5, 6, 7, 8, 9, 10] rfl)
          intro x1 x2 x3 x5 x6 x7 x9 x10 x11 x12 s0 H locs ls h Y hl
          unfold m_whom_L124b at h
          refine lv_iload X.1 X.2.1 (dck_at da_X12_whom 66 rfl) (lv_at hl 10 rfl) ?_
          refine lv_if_lt (tgt := 230) X.1 X.2.1 (dck_at da_X12_whom 67 rfl) rfl (fun c => ?_) (fun c => ?_)
          · have h := gI_pos h c
            refine lv_iload X.1 X.2.1 (dck_at da_X12_whom 121 rfl) (lv_at hl 8 rfl) ?_
            refine lv_if_eq (tgt := 247) X.1 X.2.1 (dck_at da_X12_whom 122 rfl) rfl (fun c => ?_) (fun c => ?_)
            · have h := gI_pos h c
              exact b247 x1 x2 x3 x5 x6 x7 x10 s0 _ _ _ h Y (lv_sub hl [0, 1, 2, 3, 4, 5, 6, 8] rfl)
            · have h := gI_neg h c
              refine lv_lload X.1 X.2.1 (dck_at da_X12_whom 123 rfl) (lv_at hl 6 rfl) ?_
              refine lv_lload_n X.1 X.2.1 (dck_at da_X12_whom 124 rfl) rfl (lv_at hl 3 rfl) ?_
              refine W.lcmp X.1 X.2.1 (dck_at da_X12_whom 125 rfl) ?_
              refine lv_if_le (tgt := 247) X.1 X.2.1 (dck_at da_X12_whom 126 rfl) rfl (fun c => ?_) (fun c => ?_)
              · have h := gI_pos h c
                exact b247 x1 x2 x3 x5 x6 x7 x10 s0 _ _ _ h Y (lv_sub hl [0, 1, 2, 3, 4, 5, 6, 8] rfl)
              · have h := gI_neg h c
                refine lv_iload X.1 X.2.1 (dck_at da_X12_whom 127 rfl) (lv_at hl 5 rfl) ?_
                refine lv_goto (tgt := 249) X.1 X.2.1 (dck_at da_X12_whom 128 rfl) rfl ?_
                exact b249 x1 x2 x3 x6 x7 x10 x6 s0 _ _ _ h Y (lv_sub hl [0, 1, 2, 3, 5, 6, 8] rfl)
          · have h := gI_neg h c
            refine lv_iload X.1 X.2.1 (dck_at da_X12_whom 68 rfl) (lv_at hl 9 rfl) ?_
            refine lv_bipush X.1 X.2.1 (dck_at da_X12_whom 69 rfl) kb_7 ?_
            refine lv_irem X.1 X.2.1 (dck_at da_X12_whom 70 rfl) (by decide) ?_
            refine lv_istore (lv' := [(13, .int (x11 - x11 / (7 : Int32) * (7 : Int32))), (0, .ref (ad 0)), (1, .int x1), (2, .int x2), (3, .long x3), (5, .int x5), (6, .int x6), (7, .long x7), (9, .int x9), (10, .int x10), (11, .int x11), (12, .int x12)]) X.1 X.2.1 (dck_at da_X12_whom 71 rfl) hl (by decide) rfl (fun ls hl => ?_)
            refine lv_iload X.1 X.2.1 (dck_at da_X12_whom 72 rfl) (lv_at hl 10 rfl) ?_
            refine lv_bipush X.1 X.2.1 (dck_at da_X12_whom 73 rfl) kb_7 ?_
            refine lv_idiv X.1 X.2.1 (dck_at da_X12_whom 74 rfl) (by decide) ?_
            refine lv_istore (lv' := [(11, .int (x11 / (7 : Int32))), (13, .int (x11 - x11 / (7 : Int32) * (7 : Int32))), (0, .ref (ad 0)), (1, .int x1), (2, .int x2), (3, .long x3), (5, .int x5), (6, .int x6), (7, .long x7), (9, .int x9), (10, .int x10), (12, .int x12)]) X.1 X.2.1 (dck_at da_X12_whom 75 rfl) hl (by decide) rfl (fun ls hl => ?_)
            refine lv_iload X.1 X.2.1 (dck_at da_X12_whom 76 rfl) (lv_at hl 10 rfl) ?_
            refine lv_if_eq (tgt := 178) X.1 X.2.1 (dck_at da_X12_whom 77 rfl) rfl (fun c => ?_) (fun c => ?_)
            · have h := gI_pos h c
              exact b178 x1 x2 x3 x5 x6 x7 x9 (x11 / (7 : Int32)) x12 (x11 - x11 / (7 : Int32) * (7 : Int32)) s0 _ _ _ h Y (lv_sub hl [2, 3, 4, 5, 6, 7, 8, 9, 0, 11, 1] rfl)
            · have h := gI_neg h c
              refine lv_iload X.1 X.2.1 (dck_at da_X12_whom 78 rfl) (lv_at hl 1 rfl) ?_
              refine lv_bipush X.1 X.2.1 (dck_at da_X12_whom 79 rfl) kb_6 ?_
              refine lv_icmp_eq (tgt := 174) X.1 X.2.1 (dck_at da_X12_whom 80 rfl) rfl (fun c => ?_) (fun c => ?_)
              · have h := gI_pos h c
                exact b174 x1 x2 x3 x5 x6 x7 x9 (x11 / (7 : Int32)) x12 (x11 - x11 / (7 : Int32) * (7 : Int32)) s0 _ _ _ h Y (lv_sub hl [2, 3, 4, 5, 6, 7, 8, 9, 0, 11, 1] rfl)
              · have h := gI_neg h c
                refine lv_iload X.1 X.2.1 (dck_at da_X12_whom 81 rfl) (lv_at hl 1 rfl) ?_
                refine lv_aload_n X.1 X.2.1 (dck_at da_X12_whom 82 rfl) rfl (lv_at hl 2 rfl) ?_
                refine gr_getI X G Y fk_RX12_231 clM_0 rfl (dck_at da_X12_whom 83 rfl) ?_
                refine lv_icmp_ge (tgt := 178) X.1 X.2.1 (dck_at da_X12_whom 84 rfl) rfl (fun c => ?_) (fun c => ?_)
                · have h := gI_pos h c
                  exact b178 x1 x2 x3 x5 x6 x7 x9 (x11 / (7 : Int32)) x12 (x11 - x11 / (7 : Int32) * (7 : Int32)) s0 _ _ _ h Y (lv_sub hl [2, 3, 4, 5, 6, 7, 8, 9, 0, 11, 1] rfl)
                · have h := gI_neg h c
                  refine lv_iload X.1 X.2.1 (dck_at da_X12_whom 85 rfl) (lv_at hl 9 rfl) ?_
                  refine lv_iload X.1 X.2.1 (dck_at da_X12_whom 86 rfl) (lv_at hl 1 rfl) ?_
                  refine lv_ishr X.1 X.2.1 (dck_at da_X12_whom 87 rfl) ?_
                  refine lv_iconst X.1 X.2.1 (dck_at da_X12_whom 88 rfl) ki_1 ?_
                  refine lv_iand X.1 X.2.1 (dck_at da_X12_whom 89 rfl) ?_
                  refine lv_if_ne (tgt := 178) X.1 X.2.1 (dck_at da_X12_whom 90 rfl) rfl (fun c => ?_) (fun c => ?_)
                  · have h := gI_neg h c
                    exact b178 x1 x2 x3 x5 x6 x7 x9 (x11 / (7 : Int32)) x12 (x11 - x11 / (7 : Int32) * (7 : Int32)) s0 _ _ _ h Y (lv_sub hl [2, 3, 4, 5, 6, 7, 8, 9, 0, 11, 1] rfl)
                  · have h := gI_pos h c
                    exact b174 x1 x2 x3 x5 x6 x7 x9 (x11 / (7 : Int32)) x12 (x11 - x11 / (7 : Int32) * (7 : Int32)) s0 _ _ _ h Y (lv_sub hl [2, 3, 4, 5, 6, 7, 8, 9, 0, 11, 1] rfl)
      intro x1 x2 x3 x5 x6 s0 H locs ls h Y hl
      unfold m_whom_L97b at h
      refine lv_iload X.1 X.2.1 (dck_at da_X12_whom 50 rfl) (lv_at hl 5 rfl) ?_
      refine lv_iload_n X.1 X.2.1 (dck_at da_X12_whom 51 rfl) rfl (lv_at hl 2 rfl) ?_
      refine lv_icmp_ge (tgt := 276) X.1 X.2.1 (dck_at da_X12_whom 52 rfl) rfl (fun c => ?_) (fun c => ?_)
      · have h := gI_pos h c
        refine lv_aload_n X.1 X.2.1 (dck_at da_X12_whom 143 rfl) rfl (lv_at hl 0 rfl) ?_
        refine gr_getI X G Y fk_RX12_228 clM_0 rfl (dck_at da_X12_whom 144 rfl) ?_
        refine lv_iconst X.1 X.2.1 (dck_at da_X12_whom 145 rfl) ki_1 ?_
        refine lv_isub X.1 X.2.1 (dck_at da_X12_whom 146 rfl) ?_
        refine lv_istore (lv' := [(6, .int ((s0.1 0 14) - (1 : Int32))), (0, .ref (ad 0)), (1, .int x1), (2, .int x2), (3, .long x3), (5, .int x5)]) X.1 X.2.1 (dck_at da_X12_whom 147 rfl) hl (by decide) rfl (fun ls hl => ?_)
        exact b284 F x1 x3 x5 ((s0.1 0 14) - (1 : Int32)) s0 _ _ _ h Y (lv_sub hl [2, 4, 5, 0] rfl)
      · have h := gI_neg h c
        refine lv_lconst (v := 0) X.1 X.2.1 (dck_at da_X12_whom 53 rfl) rfl ?_
        refine lv_lstore (lv' := [(7, .long (0 : Int64)), (0, .ref (ad 0)), (1, .int x1), (2, .int x2), (3, .long x3), (5, .int x5), (6, .int x6)]) X.1 X.2.1 (dck_at da_X12_whom 54 rfl) hl (by decide) rfl (fun ls hl => ?_)
        refine lv_iconst X.1 X.2.1 (dck_at da_X12_whom 55 rfl) ki_0 ?_
        refine lv_istore (lv' := [(9, .int (0 : Int32)), (7, .long (0 : Int64)), (0, .ref (ad 0)), (1, .int x1), (2, .int x2), (3, .long x3), (5, .int x5), (6, .int x6)]) X.1 X.2.1 (dck_at da_X12_whom 56 rfl) hl (by decide) rfl (fun ls hl => ?_)
        refine lv_iconst X.1 X.2.1 (dck_at da_X12_whom 57 rfl) ki_1 ?_
        refine lv_istore (lv' := [(10, .int (1 : Int32)), (9, .int (0 : Int32)), (7, .long (0 : Int64)), (0, .ref (ad 0)), (1, .int x1), (2, .int x2), (3, .long x3), (5, .int x5), (6, .int x6)]) X.1 X.2.1 (dck_at da_X12_whom 58 rfl) hl (by decide) rfl (fun ls hl => ?_)
        refine lv_iload X.1 X.2.1 (dck_at da_X12_whom 59 rfl) (lv_at hl 8 rfl) ?_
        refine lv_istore (lv' := [(11, .int x6), (10, .int (1 : Int32)), (9, .int (0 : Int32)), (7, .long (0 : Int64)), (0, .ref (ad 0)), (1, .int x1), (2, .int x2), (3, .long x3), (5, .int x5), (6, .int x6)]) X.1 X.2.1 (dck_at da_X12_whom 60 rfl) hl (by decide) rfl (fun ls hl => ?_)
        refine lv_aload_n X.1 X.2.1 (dck_at da_X12_whom 61 rfl) rfl (lv_at hl 4 rfl) ?_
        refine gr_getI X G Y fk_RX12_228 clM_0 rfl (dck_at da_X12_whom 62 rfl) ?_
        refine lv_iconst X.1 X.2.1 (dck_at da_X12_whom 63 rfl) ki_1 ?_
        refine lv_isub X.1 X.2.1 (dck_at da_X12_whom 64 rfl) ?_
        refine lv_istore (lv' := [(12, .int ((s0.1 0 14) - (1 : Int32))), (11, .int x6), (10, .int (1 : Int32)), (9, .int (0 : Int32)), (7, .long (0 : Int64)), (0, .ref (ad 0)), (1, .int x1), (2, .int x2), (3, .long x3), (5, .int x5), (6, .int x6)]) X.1 X.2.1 (dck_at da_X12_whom 65 rfl) hl (by decide) rfl (fun ls hl => ?_)
        exact b124 F x1 x2 x3 x5 x6 (0 : Int64) (0 : Int32) (1 : Int32) x6 ((s0.1 0 14) - (1 : Int32)) s0 _ _ _ h Y (lv_sub hl [5, 6, 7, 8, 9, 10, 4, 3, 2, 1, 0] rfl)
  have b68 : ∀ n : Nat, ∀ (x1 : Int32) (x2 : Int32) (x3 : Int32) (s0 : St) (H : Heap) (locs : List Loc) (ls : Array Slot), m_whom_L68 F  n x1 x2 x3 s0 = some (ρ, σ') → gY shM D cy ad A s0 s H locs → lv_has ls 14 [(0, .ref (ad 0)), (1, .int x1), (2, .int x2), (3, .int x3)] → W p l e (grm 6) s m args below meth c H locs 0 0 (MQ below (va_Ql (fun (q : Int64) (_ : Unit) => q = ρ) (fun _ t => va_P D vwCl (gWl shM cy ad σ') t.heap) A) args s 0 0 A) (F0 m 68 ls []) := by
    intro n
    induction n with
    | zero => intro x1 x2 x3 s0 H locs ls h Y hl; exact (gnone h).elim
    | succ n hk68 =>
      have e : m_whom_L68 F  (n + 1) = m_whom_L68b F  (m_whom_L68 F  n) := rfl
      rw [e]; clear e
      generalize m_whom_L68 F  n = k68 at hk68 ⊢
      intro x1 x2 x3 s0 H locs ls h Y hl
      unfold m_whom_L68b at h
      refine lv_iload_n X.1 X.2.1 (dck_at da_X12_whom 34 rfl) rfl (lv_at hl 3 rfl) ?_
      refine lv_aload_n X.1 X.2.1 (dck_at da_X12_whom 35 rfl) rfl (lv_at hl 0 rfl) ?_
      refine gr_getI X G Y fk_RX12_228 clM_0 rfl (dck_at da_X12_whom 36 rfl) ?_
      refine lv_icmp_ge (tgt := 87) X.1 X.2.1 (dck_at da_X12_whom 37 rfl) rfl (fun c => ?_) (fun c => ?_)
      · have h := gI_pos h c
        refine lv_ldc2 X.1 X.2.1 X.2.2.2.1 (X.2.2.2.2 _ wm_1295) (dck_at da_X12_whom 44 rfl) ?_
        refine lv_lstore_n (lv' := [(3, .long (-1 : Int64)), (0, .ref (ad 0)), (1, .int x1), (2, .int x2)]) X.1 X.2.1 (dck_at da_X12_whom 45 rfl) rfl hl (by decide) rfl (fun ls hl => ?_)
        refine lv_iconst X.1 X.2.1 (dck_at da_X12_whom 46 rfl) ki_0 ?_
        refine lv_istore (lv' := [(5, .int (0 : Int32)), (3, .long (-1 : Int64)), (0, .ref (ad 0)), (1, .int x1), (2, .int x2)]) X.1 X.2.1 (dck_at da_X12_whom 47 rfl) hl (by decide) rfl (fun ls hl => ?_)
        refine lv_iconst X.1 X.2.1 (dck_at da_X12_whom 48 rfl) ki_0 ?_
        refine lv_istore (lv' := [(6, .int (0 : Int32)), (5, .int (0 : Int32)), (3, .long (-1 : Int64)), (0, .ref (ad 0)), (1, .int x1), (2, .int x2)]) X.1 X.2.1 (dck_at da_X12_whom 49 rfl) hl (by decide) rfl (fun ls hl => ?_)
        exact b97 F x1 x2 (-1 : Int64) (0 : Int32) (0 : Int32) s0 _ _ _ h Y (lv_sub hl [3, 4, 5, 2, 1, 0] rfl)
      · have h := gI_neg h c
        refine lv_iload_n X.1 X.2.1 (dck_at da_X12_whom 38 rfl) rfl (lv_at hl 2 rfl) ?_
        refine lv_bipush X.1 X.2.1 (dck_at da_X12_whom 39 rfl) kb_7 ?_
        refine lv_imul X.1 X.2.1 (dck_at da_X12_whom 40 rfl) ?_
        refine lv_istore_n (lv' := [(2, .int (x2 * (7 : Int32))), (0, .ref (ad 0)), (1, .int x1), (3, .int x3)]) X.1 X.2.1 (dck_at da_X12_whom 41 rfl) rfl hl (by decide) rfl (fun ls hl => ?_)
        refine lv_iinc (v := x3 + (1 : Int32)) (lv' := [(3, .int (x3 + (1 : Int32))), (2, .int (x2 * (7 : Int32))), (0, .ref (ad 0)), (1, .int x1)]) X.1 X.2.1 (dck_at da_X12_whom 42 rfl) hl (k := 3) rfl (congrArg (HAdd.hAdd _) ki_1) (by decide) rfl (fun ls hl => ?_)
        refine lv_goto (tgt := 68) X.1 X.2.1 (dck_at da_X12_whom 43 rfl) rfl ?_
        exact hk68 x1 (x2 * (7 : Int32)) (x3 + (1 : Int32)) s0 _ _ _ h Y (lv_sub hl [2, 3, 1, 0] rfl)
  unfold m_whom at h
  refine lv_iload_n X.1 X.2.1 (dck_at da_X12_whom 0 rfl) rfl (lv_at hl 1 rfl) ?_
  refine lv_i2l (v := (a1).toInt64) X.1 X.2.1 (dck_at da_X12_whom 1 rfl) rfl ?_
  refine lv_ldc2 X.1 X.2.1 X.2.2.2.1 (X.2.2.2.2 _ wm_1295) (dck_at da_X12_whom 2 rfl) ?_
  refine lv_ldc2 X.1 X.2.1 X.2.2.2.1 (X.2.2.2.2 _ wm_1323) (dck_at da_X12_whom 3 rfl) ?_
  obtain ⟨r2, s2, hc, h⟩ := gB2_some h
  refine gr_backi Y (gr_runS (as := [.long ((a1).toInt64), .long (-1 : Int64), .long (3 : Int64)]) (rest := []) X G Y (ok_m_in hc) cs_RX12_126 ⟨Nat.le_of_ble_eq_true rfl, Nat.le_of_ble_eq_true rfl⟩ rfl hl.1 (Nat.le_of_ble_eq_true rfl) (dck_at da_X12_whom 4 rfl)) (fun H locs Y => ?_)
  refine lv_if_ne (tgt := 22) X.1 X.2.1 (dck_at da_X12_whom 5 rfl) rfl (fun c => ?_) (fun c => ?_)
  · have h := gI_neg h c
    refine lv_aload_n X.1 X.2.1 (dck_at da_X12_whom 10 rfl) rfl (lv_at hl 0 rfl) ?_
    refine gr_getI X G Y fk_RX12_107 clM_0 rfl (dck_at da_X12_whom 11 rfl) ?_
    refine lv_if_ge (tgt := 37) X.1 X.2.1 (dck_at da_X12_whom 12 rfl) rfl (fun c => ?_) (fun c => ?_)
    · have h := gI_pos h c
      refine lv_aload_n X.1 X.2.1 (dck_at da_X12_whom 17 rfl) rfl (lv_at hl 0 rfl) ?_
      refine gr_getI X G Y fk_RX12_228 clM_0 rfl (dck_at da_X12_whom 18 rfl) ?_
      refine lv_if_eq (tgt := 52) X.1 X.2.1 (dck_at da_X12_whom 19 rfl) rfl (fun c => ?_) (fun c => ?_)
      · have h := gI_pos h c
        exact b52 s2 _ _ _ h Y (lv_sub hl [0] rfl)
      · have h := gI_neg h c
        refine lv_iload_n X.1 X.2.1 (dck_at da_X12_whom 20 rfl) rfl (lv_at hl 1 rfl) ?_
        refine lv_aload_n X.1 X.2.1 (dck_at da_X12_whom 21 rfl) rfl (lv_at hl 0 rfl) ?_
        refine gr_getI X G Y fk_RX12_228 clM_0 rfl (dck_at da_X12_whom 22 rfl) ?_
        refine lv_icmp_lt (tgt := 60) X.1 X.2.1 (dck_at da_X12_whom 23 rfl) rfl (fun c => ?_) (fun c => ?_)
        · have h := gI_pos h c
          refine lv_aload_n X.1 X.2.1 (dck_at da_X12_whom 28 rfl) rfl (lv_at hl 0 rfl) ?_
          obtain ⟨s3, hc, h⟩ := gB_some h
          refine gr_backv Y (gr_runV (as := []) (rest := []) X G Y (ok_m_valuesAll hc) cv_RX12_276 clM_0 ⟨Nat.le_of_ble_eq_true rfl, Nat.le_of_ble_eq_true rfl⟩ rfl hl.1 (Nat.le_of_ble_eq_true rfl) (dck_at da_X12_whom 29 rfl)) (fun H locs Y => ?_)
          refine lv_iconst X.1 X.2.1 (dck_at da_X12_whom 30 rfl) ki_1 ?_
          refine lv_istore_n (lv' := [(2, .int (1 : Int32)), (0, .ref (ad 0)), (1, .int a1)]) X.1 X.2.1 (dck_at da_X12_whom 31 rfl) rfl hl (by decide) rfl (fun ls hl => ?_)
          refine lv_iconst X.1 X.2.1 (dck_at da_X12_whom 32 rfl) ki_0 ?_
          refine lv_istore_n (lv' := [(3, .int (0 : Int32)), (2, .int (1 : Int32)), (0, .ref (ad 0)), (1, .int a1)]) X.1 X.2.1 (dck_at da_X12_whom 33 rfl) rfl hl (by decide) rfl (fun ls hl => ?_)
          exact b68 F a1 (1 : Int32) (0 : Int32) s3 _ _ _ h Y (lv_sub hl [2, 3, 1, 0] rfl)
        · have h := gI_neg h c
          exact b52 s2 _ _ _ h Y (lv_sub hl [0] rfl)
    · have h := gI_neg h c
      refine lv_aload_n X.1 X.2.1 (dck_at da_X12_whom 13 rfl) rfl (lv_at hl 0 rfl) ?_
      refine lv_ldc2 X.1 X.2.1 X.2.2.2.1 (X.2.2.2.2 _ wm_1464) (dck_at da_X12_whom 14 rfl) ?_
      obtain ⟨r4, s4, hc, h⟩ := gB2_some h
      refine gr_backl Y (gr_runV (as := [.long (-2 : Int64)]) (rest := []) X G Y (ok_m_says hc) cv_RX12_120 clM_0 ⟨Nat.le_of_ble_eq_true rfl, Nat.le_of_ble_eq_true rfl⟩ rfl hl.1 (Nat.le_of_ble_eq_true rfl) (dck_at da_X12_whom 15 rfl)) (fun H locs Y => ?_)
      exact gr_lretO X Y h hr hlk (dck_at da_X12_whom 16 rfl)
  · have h := gI_pos h c
    refine lv_aload_n X.1 X.2.1 (dck_at da_X12_whom 6 rfl) rfl (lv_at hl 0 rfl) ?_
    refine lv_ldc2 X.1 X.2.1 X.2.2.2.1 (X.2.2.2.2 _ wm_1295) (dck_at da_X12_whom 7 rfl) ?_
    obtain ⟨r5, s5, hc, h⟩ := gB2_some h
    refine gr_backl Y (gr_runV (as := [.long (-1 : Int64)]) (rest := []) X G Y (ok_m_says hc) cv_RX12_120 clM_0 ⟨Nat.le_of_ble_eq_true rfl, Nat.le_of_ble_eq_true rfl⟩ rfl hl.1 (Nat.le_of_ble_eq_true rfl) (dck_at da_X12_whom 8 rfl)) (fun H locs Y => ?_)
    exact gr_lretO X Y h hr hlk (dck_at da_X12_whom 9 rfl)
set_option maxRecDepth 100000 in
set_option maxHeartbeats 4000000 in
theorem ok_m_bound {l : Launch} {D : va_G} {cy : Nat → ClassId} {ad sa : Nat → Nat} {A : Nat → Prop} {F : Nat}  {s0 : St} {ρ : Int64} {σ' : St} (h : m_bound F s0 = some (ρ, σ')) : gMl l shM D cy ad sa A yX12_bound cX12_bound 7 (some .long) 6 [.ref (ad 0)] s0 ρ σ' := by
  refine gM_of (by decide) (Nat.le_of_ble_eq_true rfl) ?_
  intro p e s m args below meth c ls X G Y hr hlk hl
  have hl : lv_has ls 7 [(0, .ref (ad 0))] := hl
  have b38 : ∀ n : Nat, ∀ (x1 : Int64) (x3 : Int32) (s0 : St) (H : Heap) (locs : List Loc) (ls : Array Slot), m_bound_L38 F  n x1 x3 s0 = some (ρ, σ') → gY shM D cy ad A s0 s H locs → lv_has ls 7 [(0, .ref (ad 0)), (1, .long x1), (3, .int x3)] → W p l e (grm 6) s m args below meth c H locs 0 0 (MQ below (va_Ql (fun (q : Int64) (_ : Unit) => q = ρ) (fun _ t => va_P D vwCl (gWl shM cy ad σ') t.heap) A) args s 0 0 A) (F0 m 38 ls []) := by
    intro n
    induction n with
    | zero => intro x1 x3 s0 H locs ls h Y hl; exact (gnone h).elim
    | succ n hk38 =>
      have e : m_bound_L38 F  (n + 1) = m_bound_L38b F  (m_bound_L38 F  n) := rfl
      rw [e]; clear e
      generalize m_bound_L38 F  n = k38 at hk38 ⊢
      have b52 : ∀ n : Nat, ∀ (x1 : Int64) (x3 : Int32) (x4 : Int64) (x6 : Int32) (s0 : St) (H : Heap) (locs : List Loc) (ls : Array Slot), m_bound_L52 F k38 n x1 x3 x4 x6 s0 = some (ρ, σ') → gY shM D cy ad A s0 s H locs → lv_has ls 7 [(0, .ref (ad 0)), (1, .long x1), (3, .int x3), (4, .long x4), (6, .int x6)] → W p l e (grm 6) s m args below meth c H locs 0 0 (MQ below (va_Ql (fun (q : Int64) (_ : Unit) => q = ρ) (fun _ t => va_P D vwCl (gWl shM cy ad σ') t.heap) A) args s 0 0 A) (F0 m 52 ls []) := by
        intro n
        induction n with
        | zero => intro x1 x3 x4 x6 s0 H locs ls h Y hl; exact (gnone h).elim
        | succ n hk52 =>
          have e : m_bound_L52 F k38 (n + 1) = m_bound_L52b F k38 (m_bound_L52 F k38 n) := rfl
          rw [e]; clear e
          generalize m_bound_L52 F k38 n = k52 at hk52 ⊢
          have b96 : ∀ (x1 : Int64) (x3 : Int32) (x6 : Int32) (y0 : Int64) (s0 : St) (H : Heap) (locs : List Loc) (ls : Array Slot), m_bound_J96 F k38 k52 x1 x3 x6 y0 s0 = some (ρ, σ') → gY shM D cy ad A s0 s H locs → lv_has ls 7 [(0, .ref (ad 0)), (1, .long x1), (3, .int x3), (6, .int x6)] → W p l e (grm 6) s m args below meth c H locs 0 0 (MQ below (va_Ql (fun (q : Int64) (_ : Unit) => q = ρ) (fun _ t => va_P D vwCl (gWl shM cy ad σ') t.heap) A) args s 0 0 A) (F0 m 96 ls [.long y0]) := by
            intro x1 x3 x6 y0 s0 H locs ls h Y hl
            unfold m_bound_J96 at h
            refine lv_lstore (lv' := [(4, .long y0), (0, .ref (ad 0)), (1, .long x1), (3, .int x3), (6, .int x6)]) X.1 X.2.1 (dck_at da_X12_bound 53 rfl) hl (by decide) rfl (fun ls hl => ?_)
            refine lv_iinc (v := x6 + (1 : Int32)) (lv' := [(6, .int (x6 + (1 : Int32))), (4, .long y0), (0, .ref (ad 0)), (1, .long x1), (3, .int x3)]) X.1 X.2.1 (dck_at da_X12_bound 54 rfl) hl (k := 4) rfl (congrArg (HAdd.hAdd _) ki_1) (by decide) rfl (fun ls hl => ?_)
            refine lv_goto (tgt := 52) X.1 X.2.1 (dck_at da_X12_bound 55 rfl) rfl ?_
            exact hk52 x1 x3 y0 (x6 + (1 : Int32)) s0 _ _ _ h Y (lv_sub hl [2, 3, 4, 1, 0] rfl)
          intro x1 x3 x4 x6 s0 H locs ls h Y hl
          unfold m_bound_L52b at h
          refine lv_iload X.1 X.2.1 (dck_at da_X12_bound 28 rfl) (lv_at hl 4 rfl) ?_
          refine lv_aload_n X.1 X.2.1 (dck_at da_X12_bound 29 rfl) rfl (lv_at hl 0 rfl) ?_
          refine gr_getI X G Y fk_RX12_231 clM_0 rfl (dck_at da_X12_bound 30 rfl) ?_
          refine lv_icmp_ge (tgt := 104) X.1 X.2.1 (dck_at da_X12_bound 31 rfl) rfl (fun c => ?_) (fun c => ?_)
          · have h := gI_pos h c
            refine lv_lload_n X.1 X.2.1 (dck_at da_X12_bound 56 rfl) rfl (lv_at hl 1 rfl) ?_
            refine lv_lload X.1 X.2.1 (dck_at da_X12_bound 57 rfl) (lv_at hl 3 rfl) ?_
            refine lv_ladd X.1 X.2.1 (dck_at da_X12_bound 58 rfl) ?_
            refine lv_lstore_n (lv' := [(1, .long (x1 + x4)), (0, .ref (ad 0)), (3, .int x3), (4, .long x4), (6, .int x6)]) X.1 X.2.1 (dck_at da_X12_bound 59 rfl) rfl hl (by decide) rfl (fun ls hl => ?_)
            refine lv_iinc (v := x3 + (1 : Int32)) (lv' := [(3, .int (x3 + (1 : Int32))), (1, .long (x1 + x4)), (0, .ref (ad 0)), (4, .long x4), (6, .int x6)]) X.1 X.2.1 (dck_at da_X12_bound 60 rfl) hl (k := 2) rfl (congrArg (HAdd.hAdd _) ki_1) (by decide) rfl (fun ls hl => ?_)
            refine lv_goto (tgt := 38) X.1 X.2.1 (dck_at da_X12_bound 61 rfl) rfl ?_
            exact hk38 (x1 + x4) (x3 + (1 : Int32)) s0 _ _ _ h Y (lv_sub hl [2, 1, 0] rfl)
          · have h := gI_neg h c
            refine lv_aload_n X.1 X.2.1 (dck_at da_X12_bound 32 rfl) rfl (lv_at hl 0 rfl) ?_
            refine gr_getR X G Y fk_RX12_53 clM_0 rfl (dck_at da_X12_bound 33 rfl) ?_
            refine lv_bipush X.1 X.2.1 (dck_at da_X12_bound 34 rfl) kb_6 ?_
            refine lv_iload_n X.1 X.2.1 (dck_at da_X12_bound 35 rfl) rfl (lv_at hl 2 rfl) ?_
            refine lv_imul X.1 X.2.1 (dck_at da_X12_bound 36 rfl) ?_
            refine lv_iload X.1 X.2.1 (dck_at da_X12_bound 37 rfl) (lv_at hl 4 rfl) ?_
            refine lv_iadd X.1 X.2.1 (dck_at da_X12_bound 38 rfl) ?_
            obtain ⟨hin, h⟩ := gI_if h
            refine gr_lald X G Y clM_15 hin (dck_at da_X12_bound 39 rfl) ?_
            refine lv_lload X.1 X.2.1 (dck_at da_X12_bound 40 rfl) (lv_at hl 3 rfl) ?_
            refine W.lcmp X.1 X.2.1 (dck_at da_X12_bound 41 rfl) ?_
            refine lv_if_le (tgt := 94) X.1 X.2.1 (dck_at da_X12_bound 42 rfl) rfl (fun c => ?_) (fun c => ?_)
            · have h := gI_pos h c
              refine lv_lload X.1 X.2.1 (dck_at da_X12_bound 52 rfl) (lv_at hl 3 rfl) ?_
              exact b96 x1 x3 x6 x4 s0 _ _ _ h Y (lv_sub hl [0, 1, 2, 4] rfl)
            · have h := gI_neg h c
              refine lv_aload_n X.1 X.2.1 (dck_at da_X12_bound 43 rfl) rfl (lv_at hl 0 rfl) ?_
              refine gr_getR X G Y fk_RX12_53 clM_0 rfl (dck_at da_X12_bound 44 rfl) ?_
              refine lv_bipush X.1 X.2.1 (dck_at da_X12_bound 45 rfl) kb_6 ?_
              refine lv_iload_n X.1 X.2.1 (dck_at da_X12_bound 46 rfl) rfl (lv_at hl 2 rfl) ?_
              refine lv_imul X.1 X.2.1 (dck_at da_X12_bound 47 rfl) ?_
              refine lv_iload X.1 X.2.1 (dck_at da_X12_bound 48 rfl) (lv_at hl 4 rfl) ?_
              refine lv_iadd X.1 X.2.1 (dck_at da_X12_bound 49 rfl) ?_
              obtain ⟨hin, h⟩ := gI_if h
              refine gr_lald X G Y clM_15 hin (dck_at da_X12_bound 50 rfl) ?_
              refine lv_goto (tgt := 96) X.1 X.2.1 (dck_at da_X12_bound 51 rfl) rfl ?_
              exact b96 x1 x3 x6 (s0.2 15 (((6 : Int32) * x3) + x6).toNatClampNeg) s0 _ _ _ h Y (lv_sub hl [0, 1, 2, 4] rfl)
      intro x1 x3 s0 H locs ls h Y hl
      unfold m_bound_L38b at h
      refine lv_iload_n X.1 X.2.1 (dck_at da_X12_bound 20 rfl) rfl (lv_at hl 2 rfl) ?_
      refine lv_aload_n X.1 X.2.1 (dck_at da_X12_bound 21 rfl) rfl (lv_at hl 0 rfl) ?_
      refine gr_getI X G Y fk_RX12_228 clM_0 rfl (dck_at da_X12_bound 22 rfl) ?_
      refine lv_icmp_ge (tgt := 115) X.1 X.2.1 (dck_at da_X12_bound 23 rfl) rfl (fun c => ?_) (fun c => ?_)
      · have h := gI_pos h c
        refine lv_lload_n X.1 X.2.1 (dck_at da_X12_bound 62 rfl) rfl (lv_at hl 1 rfl) ?_
        exact gr_lretO X Y h hr hlk (dck_at da_X12_bound 63 rfl)
      · have h := gI_neg h c
        refine lv_lconst (v := 0) X.1 X.2.1 (dck_at da_X12_bound 24 rfl) rfl ?_
        refine lv_lstore (lv' := [(4, .long (0 : Int64)), (0, .ref (ad 0)), (1, .long x1), (3, .int x3)]) X.1 X.2.1 (dck_at da_X12_bound 25 rfl) hl (by decide) rfl (fun ls hl => ?_)
        refine lv_iconst X.1 X.2.1 (dck_at da_X12_bound 26 rfl) ki_0 ?_
        refine lv_istore (lv' := [(6, .int (0 : Int32)), (4, .long (0 : Int64)), (0, .ref (ad 0)), (1, .long x1), (3, .int x3)]) X.1 X.2.1 (dck_at da_X12_bound 27 rfl) hl (by decide) rfl (fun ls hl => ?_)
        exact b52 F x1 x3 (0 : Int64) (0 : Int32) s0 _ _ _ h Y (lv_sub hl [2, 3, 4, 1, 0] rfl)
  unfold m_bound at h
  refine lv_aload_n X.1 X.2.1 (dck_at da_X12_bound 0 rfl) rfl (lv_at hl 0 rfl) ?_
  refine gr_getI X G Y fk_RX12_107 clM_0 rfl (dck_at da_X12_bound 1 rfl) ?_
  refine lv_if_ge (tgt := 15) X.1 X.2.1 (dck_at da_X12_bound 2 rfl) rfl (fun c => ?_) (fun c => ?_)
  · have h := gI_pos h c
    refine lv_aload_n X.1 X.2.1 (dck_at da_X12_bound 7 rfl) rfl (lv_at hl 0 rfl) ?_
    refine gr_getI X G Y fk_RX12_228 clM_0 rfl (dck_at da_X12_bound 8 rfl) ?_
    refine lv_if_ne (tgt := 30) X.1 X.2.1 (dck_at da_X12_bound 9 rfl) rfl (fun c => ?_) (fun c => ?_)
    · have h := gI_neg h c
      refine lv_aload_n X.1 X.2.1 (dck_at da_X12_bound 14 rfl) rfl (lv_at hl 0 rfl) ?_
      obtain ⟨s1, hc, h⟩ := gB_some h
      refine gr_backv Y (gr_runV (as := []) (rest := []) X G Y (ok_m_valuesAll hc) cv_RX12_276 clM_0 ⟨Nat.le_of_ble_eq_true rfl, Nat.le_of_ble_eq_true rfl⟩ rfl hl.1 (Nat.le_of_ble_eq_true rfl) (dck_at da_X12_bound 15 rfl)) (fun H locs Y => ?_)
      refine lv_lconst (v := 0) X.1 X.2.1 (dck_at da_X12_bound 16 rfl) rfl ?_
      refine lv_lstore_n (lv' := [(1, .long (0 : Int64)), (0, .ref (ad 0))]) X.1 X.2.1 (dck_at da_X12_bound 17 rfl) rfl hl (by decide) rfl (fun ls hl => ?_)
      refine lv_iconst X.1 X.2.1 (dck_at da_X12_bound 18 rfl) ki_0 ?_
      refine lv_istore_n (lv' := [(3, .int (0 : Int32)), (1, .long (0 : Int64)), (0, .ref (ad 0))]) X.1 X.2.1 (dck_at da_X12_bound 19 rfl) rfl hl (by decide) rfl (fun ls hl => ?_)
      exact b38 F (0 : Int64) (0 : Int32) s1 _ _ _ h Y (lv_sub hl [2, 1, 0] rfl)
    · have h := gI_pos h c
      refine lv_aload_n X.1 X.2.1 (dck_at da_X12_bound 10 rfl) rfl (lv_at hl 0 rfl) ?_
      refine lv_ldc2 X.1 X.2.1 X.2.2.2.1 (X.2.2.2.2 _ wm_1408) (dck_at da_X12_bound 11 rfl) ?_
      obtain ⟨r2, s2, hc, h⟩ := gB2_some h
      refine gr_backl Y (gr_runV (as := [.long (-4 : Int64)]) (rest := []) X G Y (ok_m_says hc) cv_RX12_120 clM_0 ⟨Nat.le_of_ble_eq_true rfl, Nat.le_of_ble_eq_true rfl⟩ rfl hl.1 (Nat.le_of_ble_eq_true rfl) (dck_at da_X12_bound 12 rfl)) (fun H locs Y => ?_)
      exact gr_lretO X Y h hr hlk (dck_at da_X12_bound 13 rfl)
  · have h := gI_neg h c
    refine lv_aload_n X.1 X.2.1 (dck_at da_X12_bound 3 rfl) rfl (lv_at hl 0 rfl) ?_
    refine lv_ldc2 X.1 X.2.1 X.2.2.2.1 (X.2.2.2.2 _ wm_1464) (dck_at da_X12_bound 4 rfl) ?_
    obtain ⟨r3, s3, hc, h⟩ := gB2_some h
    refine gr_backl Y (gr_runV (as := [.long (-2 : Int64)]) (rest := []) X G Y (ok_m_says hc) cv_RX12_120 clM_0 ⟨Nat.le_of_ble_eq_true rfl, Nat.le_of_ble_eq_true rfl⟩ rfl hl.1 (Nat.le_of_ble_eq_true rfl) (dck_at da_X12_bound 5 rfl)) (fun H locs Y => ?_)
    exact gr_lretO X Y h hr hlk (dck_at da_X12_bound 6 rfl)
set_option maxRecDepth 100000 in
set_option maxHeartbeats 4000000 in
theorem ok_m_again {l : Launch} {D : va_G} {cy : Nat → ClassId} {ad sa : Nat → Nat} {A : Nat → Prop} {F : Nat} {a1 : Int32} {a2 : Int32} {s0 : St} {ρ : Int32} {σ' : St} (h : m_again F a1 a2 s0 = some (ρ, σ')) : gMi l shM D cy ad sa A yX12_again cX12_again 11 (some .int) 4 [.ref (ad 0), .int a1, .int a2] s0 ρ σ' := by
  refine gM_of (by decide) (Nat.le_of_ble_eq_true rfl) ?_
  intro p e s m args below meth c ls X G Y hr hlk hl
  have hl : lv_has ls 11 [(0, .ref (ad 0)), (1, .int a1), (2, .int a2)] := hl
  have b17 : ∀  (s0 : St) (H : Heap) (locs : List Loc) (ls : Array Slot), m_again_J17 F  s0 = some (ρ, σ') → gY shM D cy ad A s0 s H locs → lv_has ls 11 [(0, .ref (ad 0))] → W p l e (grm 4) s m args below meth c H locs 0 0 (MQ below (va_Qi (fun (q : Int32) (_ : Unit) => q = ρ) (fun _ t => va_P D vwCl (gWl shM cy ad σ') t.heap) A) args s 0 0 A) (F0 m 17 ls []) := by
    intro s0 H locs ls h Y hl
    unfold m_again_J17 at h
    refine lv_aload_n X.1 X.2.1 (dck_at da_X12_again 9 rfl) rfl (lv_at hl 0 rfl) ?_
    refine lv_iconst X.1 X.2.1 (dck_at da_X12_again 10 rfl) ki_m1 ?_
    obtain ⟨r1, s1, hc, h⟩ := gB2_some h
    refine gr_backi Y (gr_runV (as := [.int (-1 : Int32)]) (rest := []) X G Y (ok_m_tells hc) cv_RX12_130 clM_0 ⟨Nat.le_of_ble_eq_true rfl, Nat.le_of_ble_eq_true rfl⟩ rfl hl.1 (Nat.le_of_ble_eq_true rfl) (dck_at da_X12_again 11 rfl)) (fun H locs Y => ?_)
    exact gr_iretO X Y h hr rfl hlk (dck_at da_X12_again 12 rfl)
  have b53 : ∀ n : Nat, ∀ (x1 : Int32) (x2 : Int32) (x3 : Int32) (x4 : Int64) (x6 : Int64) (x8 : Int32) (s0 : St) (H : Heap) (locs : List Loc) (ls : Array Slot), m_again_L53 F  n x1 x2 x3 x4 x6 x8 s0 = some (ρ, σ') → gY shM D cy ad A s0 s H locs → lv_has ls 11 [(0, .ref (ad 0)), (1, .int x1), (2, .int x2), (3, .int x3), (4, .long x4), (6, .long x6), (8, .int x8)] → W p l e (grm 4) s m args below meth c H locs 0 0 (MQ below (va_Qi (fun (q : Int32) (_ : Unit) => q = ρ) (fun _ t => va_P D vwCl (gWl shM cy ad σ') t.heap) A) args s 0 0 A) (F0 m 53 ls []) := by
    intro n
    induction n with
    | zero => intro x1 x2 x3 x4 x6 x8 s0 H locs ls h Y hl; exact (gnone h).elim
    | succ n hk53 =>
      have e : m_again_L53 F  (n + 1) = m_again_L53b F  (m_again_L53 F  n) := rfl
      rw [e]; clear e
      generalize m_again_L53 F  n = k53 at hk53 ⊢
      have b119 : ∀ (x1 : Int32) (x2 : Int32) (x3 : Int32) (x4 : Int64) (x6 : Int64) (x8 : Int32) (s0 : St) (H : Heap) (locs : List Loc) (ls : Array Slot), m_again_J119 F k53 x1 x2 x3 x4 x6 x8 s0 = some (ρ, σ') → gY shM D cy ad A s0 s H locs → lv_has ls 11 [(0, .ref (ad 0)), (1, .int x1), (2, .int x2), (3, .int x3), (4, .long x4), (6, .long x6), (8, .int x8)] → W p l e (grm 4) s m args below meth c H locs 0 0 (MQ below (va_Qi (fun (q : Int32) (_ : Unit) => q = ρ) (fun _ t => va_P D vwCl (gWl shM cy ad σ') t.heap) A) args s 0 0 A) (F0 m 119 ls []) := by
        intro x1 x2 x3 x4 x6 x8 s0 H locs ls h Y hl
        unfold m_again_J119 at h
        refine lv_iinc (v := x8 + (1 : Int32)) (lv' := [(8, .int (x8 + (1 : Int32))), (0, .ref (ad 0)), (1, .int x1), (2, .int x2), (3, .int x3), (4, .long x4), (6, .long x6)]) X.1 X.2.1 (dck_at da_X12_again 60 rfl) hl (k := 6) rfl (congrArg (HAdd.hAdd _) ki_1) (by decide) rfl (fun ls hl => ?_)
        refine lv_goto (tgt := 53) X.1 X.2.1 (dck_at da_X12_again 61 rfl) rfl ?_
        exact hk53 x1 x2 x3 x4 x6 (x8 + (1 : Int32)) s0 _ _ _ h Y (lv_sub hl [1, 2, 3, 4, 5, 6, 0] rfl)
      have b99 : ∀ (x1 : Int32) (x2 : Int32) (x3 : Int32) (x4 : Int64) (x8 : Int32) (y0 : Int64) (s0 : St) (H : Heap) (locs : List Loc) (ls : Array Slot), m_again_J99 F k53 x1 x2 x3 x4 x8 y0 s0 = some (ρ, σ') → gY shM D cy ad A s0 s H locs → lv_has ls 11 [(0, .ref (ad 0)), (1, .int x1), (2, .int x2), (3, .int x3), (4, .long x4), (8, .int x8)] → W p l e (grm 4) s m args below meth c H locs 0 0 (MQ below (va_Qi (fun (q : Int32) (_ : Unit) => q = ρ) (fun _ t => va_P D vwCl (gWl shM cy ad σ') t.heap) A) args s 0 0 A) (F0 m 99 ls [.long y0]) := by
        intro x1 x2 x3 x4 x8 y0 s0 H locs ls h Y hl
        unfold m_again_J99 at h
        refine lv_lstore (lv' := [(6, .long y0), (0, .ref (ad 0)), (1, .int x1), (2, .int x2), (3, .int x3), (4, .long x4), (8, .int x8)]) X.1 X.2.1 (dck_at da_X12_again 50 rfl) hl (by decide) rfl (fun ls hl => ?_)
        refine lv_goto (tgt := 119) X.1 X.2.1 (dck_at da_X12_again 51 rfl) rfl ?_
        exact b119 x1 x2 x3 x4 y0 x8 s0 _ _ _ h Y (lv_sub hl [1, 2, 3, 4, 5, 0, 6] rfl)
      intro x1 x2 x3 x4 x6 x8 s0 H locs ls h Y hl
      unfold m_again_L53b at h
      refine lv_iload X.1 X.2.1 (dck_at da_X12_again 28 rfl) (lv_at hl 6 rfl) ?_
      refine lv_sipush X.1 X.2.1 (dck_at da_X12_again 29 rfl) ks_144 ?_
      refine lv_icmp_ge (tgt := 125) X.1 X.2.1 (dck_at da_X12_again 30 rfl) rfl (fun c => ?_) (fun c => ?_)
      · have h := gI_pos h c
        refine lv_iload_n X.1 X.2.1 (dck_at da_X12_again 62 rfl) rfl (lv_at hl 3 rfl) ?_
        refine lv_if_ge (tgt := 138) X.1 X.2.1 (dck_at da_X12_again 63 rfl) rfl (fun c => ?_) (fun c => ?_)
        · have h := gI_pos h c
          refine lv_iload_n X.1 X.2.1 (dck_at da_X12_again 68 rfl) rfl (lv_at hl 2 rfl) ?_
          refine lv_if_ne (tgt := 146) X.1 X.2.1 (dck_at da_X12_again 69 rfl) rfl (fun c => ?_) (fun c => ?_)
          · have h := gI_neg h c
            refine lv_lload X.1 X.2.1 (dck_at da_X12_again 72 rfl) (lv_at hl 4 rfl) ?_
            refine lv_lload X.1 X.2.1 (dck_at da_X12_again 73 rfl) (lv_at hl 5 rfl) ?_
            refine W.lcmp X.1 X.2.1 (dck_at da_X12_again 74 rfl) ?_
            refine lv_if_le (tgt := 158) X.1 X.2.1 (dck_at da_X12_again 75 rfl) rfl (fun c => ?_) (fun c => ?_)
            · have h := gI_pos h c
              refine lv_iconst X.1 X.2.1 (dck_at da_X12_again 78 rfl) ki_0 ?_
              exact gr_iretO X Y h hr rfl hlk (dck_at da_X12_again 79 rfl)
            · have h := gI_neg h c
              refine lv_iconst X.1 X.2.1 (dck_at da_X12_again 76 rfl) ki_1 ?_
              refine lv_goto (tgt := 159) X.1 X.2.1 (dck_at da_X12_again 77 rfl) rfl ?_
              exact gr_iretO X Y h hr rfl hlk (dck_at da_X12_again 79 rfl)
          · have h := gI_pos h c
            refine lv_iload_n X.1 X.2.1 (dck_at da_X12_again 70 rfl) rfl (lv_at hl 3 rfl) ?_
            refine lv_goto (tgt := 159) X.1 X.2.1 (dck_at da_X12_again 71 rfl) rfl ?_
            exact gr_iretO X Y h hr rfl hlk (dck_at da_X12_again 79 rfl)
        · have h := gI_neg h c
          refine lv_aload_n X.1 X.2.1 (dck_at da_X12_again 64 rfl) rfl (lv_at hl 0 rfl) ?_
          refine lv_bipush X.1 X.2.1 (dck_at da_X12_again 65 rfl) kb_m4 ?_
          obtain ⟨r2, s2, hc, h⟩ := gB2_some h
          refine gr_backi Y (gr_runV (as := [.int (-4 : Int32)]) (rest := []) X G Y (ok_m_tells hc) cv_RX12_130 clM_0 ⟨Nat.le_of_ble_eq_true rfl, Nat.le_of_ble_eq_true rfl⟩ rfl hl.1 (Nat.le_of_ble_eq_true rfl) (dck_at da_X12_again 66 rfl)) (fun H locs Y => ?_)
          refine lv_goto (tgt := 159) X.1 X.2.1 (dck_at da_X12_again 67 rfl) rfl ?_
          exact gr_iretO X Y h hr rfl hlk (dck_at da_X12_again 79 rfl)
      · have h := gI_neg h c
        refine lv_aload_n X.1 X.2.1 (dck_at da_X12_again 31 rfl) rfl (lv_at hl 0 rfl) ?_
        refine lv_iload_n X.1 X.2.1 (dck_at da_X12_again 32 rfl) rfl (lv_at hl 1 rfl) ?_
        refine lv_iload X.1 X.2.1 (dck_at da_X12_again 33 rfl) (lv_at hl 6 rfl) ?_
        refine lv_aload_n X.1 X.2.1 (dck_at da_X12_again 34 rfl) rfl (lv_at hl 0 rfl) ?_
        refine gr_getI X G Y fk_RX12_107 clM_0 rfl (dck_at da_X12_again 35 rfl) ?_
        obtain ⟨r3, s3, hc, h⟩ := gB2_some h
        refine gr_backl Y (gr_runV (as := [.int x1, .int x8, .int (s0.1 0 13)]) (rest := []) X G Y (ok_m_seen hc) cv_RX12_266 clM_0 ⟨Nat.le_of_ble_eq_true rfl, Nat.le_of_ble_eq_true rfl⟩ rfl hl.1 (Nat.le_of_ble_eq_true rfl) (dck_at da_X12_again 36 rfl)) (fun H locs Y => ?_)
        refine lv_lstore (lv' := [(9, .long r3), (0, .ref (ad 0)), (1, .int x1), (2, .int x2), (3, .int x3), (4, .long x4), (6, .long x6), (8, .int x8)]) X.1 X.2.1 (dck_at da_X12_again 37 rfl) hl (by decide) rfl (fun ls hl => ?_)
        refine lv_aload_n X.1 X.2.1 (dck_at da_X12_again 38 rfl) rfl (lv_at hl 1 rfl) ?_
        refine gr_getR X G Y fk_RX12_19 clM_0 rfl (dck_at da_X12_again 39 rfl) ?_
        refine lv_iload X.1 X.2.1 (dck_at da_X12_again 40 rfl) (lv_at hl 7 rfl) ?_
        obtain ⟨hin, h⟩ := gI_if h
        refine gr_iald X G Y clM_4 hin (dck_at da_X12_again 41 rfl) ?_
        refine lv_if_ne (tgt := 104) X.1 X.2.1 (dck_at da_X12_again 42 rfl) rfl (fun c => ?_) (fun c => ?_)
        · have h := gI_neg h c
          refine lv_lload X.1 X.2.1 (dck_at da_X12_again 52 rfl) (lv_at hl 0 rfl) ?_
          refine lv_lload X.1 X.2.1 (dck_at da_X12_again 53 rfl) (lv_at hl 5 rfl) ?_
          refine W.lcmp X.1 X.2.1 (dck_at da_X12_again 54 rfl) ?_
          refine lv_if_le (tgt := 119) X.1 X.2.1 (dck_at da_X12_again 55 rfl) rfl (fun c => ?_) (fun c => ?_)
          · have h := gI_pos h c
            exact b119 x1 x2 x3 x4 x6 x8 s3 _ _ _ h Y (lv_sub hl [1, 2, 3, 4, 5, 6, 7] rfl)
          · have h := gI_neg h c
            refine lv_iload X.1 X.2.1 (dck_at da_X12_again 56 rfl) (lv_at hl 7 rfl) ?_
            refine lv_istore_n (lv' := [(3, .int x8), (9, .long r3), (0, .ref (ad 0)), (1, .int x1), (2, .int x2), (4, .long x4), (6, .long x6), (8, .int x8)]) X.1 X.2.1 (dck_at da_X12_again 57 rfl) rfl hl (by decide) rfl (fun ls hl => ?_)
            refine lv_lload X.1 X.2.1 (dck_at da_X12_again 58 rfl) (lv_at hl 1 rfl) ?_
            refine lv_lstore (lv' := [(4, .long r3), (3, .int x8), (9, .long r3), (0, .ref (ad 0)), (1, .int x1), (2, .int x2), (6, .long x6), (8, .int x8)]) X.1 X.2.1 (dck_at da_X12_again 59 rfl) hl (by decide) rfl (fun ls hl => ?_)
            exact b119 x1 x2 x8 r3 x6 x8 s3 _ _ _ h Y (lv_sub hl [3, 4, 5, 1, 0, 6, 7] rfl)
        · have h := gI_pos h c
          refine lv_lload X.1 X.2.1 (dck_at da_X12_again 43 rfl) (lv_at hl 0 rfl) ?_
          refine lv_lload X.1 X.2.1 (dck_at da_X12_again 44 rfl) (lv_at hl 6 rfl) ?_
          refine W.lcmp X.1 X.2.1 (dck_at da_X12_again 45 rfl) ?_
          refine lv_if_le (tgt := 97) X.1 X.2.1 (dck_at da_X12_again 46 rfl) rfl (fun c => ?_) (fun c => ?_)
          · have h := gI_pos h c
            refine lv_lload X.1 X.2.1 (dck_at da_X12_again 49 rfl) (lv_at hl 6 rfl) ?_
            exact b99 x1 x2 x3 x4 x8 x6 s3 _ _ _ h Y (lv_sub hl [1, 2, 3, 4, 5, 7] rfl)
          · have h := gI_neg h c
            refine lv_lload X.1 X.2.1 (dck_at da_X12_again 47 rfl) (lv_at hl 0 rfl) ?_
            refine lv_goto (tgt := 99) X.1 X.2.1 (dck_at da_X12_again 48 rfl) rfl ?_
            exact b99 x1 x2 x3 x4 x8 r3 s3 _ _ _ h Y (lv_sub hl [1, 2, 3, 4, 5, 7] rfl)
  unfold m_again at h
  refine lv_iload_n X.1 X.2.1 (dck_at da_X12_again 0 rfl) rfl (lv_at hl 1 rfl) ?_
  obtain ⟨r4, s4, hc, h⟩ := gB2_some h
  refine gr_backi Y (gr_runS (as := [.int a1]) (rest := []) X G Y (ok_m_isSort hc) cs_RX12_255 ⟨Nat.le_of_ble_eq_true rfl, Nat.le_of_ble_eq_true rfl⟩ rfl hl.1 (Nat.le_of_ble_eq_true rfl) (dck_at da_X12_again 1 rfl)) (fun H locs Y => ?_)
  refine lv_if_eq (tgt := 17) X.1 X.2.1 (dck_at da_X12_again 2 rfl) rfl (fun c => ?_) (fun c => ?_)
  · have h := gI_pos h c
    exact b17 s4 _ _ _ h Y (lv_sub hl [0] rfl)
  · have h := gI_neg h c
    refine lv_iload_n X.1 X.2.1 (dck_at da_X12_again 3 rfl) rfl (lv_at hl 2 rfl) ?_
    refine lv_i2l (v := (a2).toInt64) X.1 X.2.1 (dck_at da_X12_again 4 rfl) rfl ?_
    refine lv_lconst (v := 0) X.1 X.2.1 (dck_at da_X12_again 5 rfl) rfl ?_
    refine lv_lconst (v := 1) X.1 X.2.1 (dck_at da_X12_again 6 rfl) rfl ?_
    obtain ⟨r5, s5, hc, h⟩ := gB2_some h
    refine gr_backi Y (gr_runS (as := [.long ((a2).toInt64), .long (0 : Int64), .long (1 : Int64)]) (rest := []) X G Y (ok_m_in hc) cs_RX12_126 ⟨Nat.le_of_ble_eq_true rfl, Nat.le_of_ble_eq_true rfl⟩ rfl hl.1 (Nat.le_of_ble_eq_true rfl) (dck_at da_X12_again 7 rfl)) (fun H locs Y => ?_)
    refine lv_if_ne (tgt := 23) X.1 X.2.1 (dck_at da_X12_again 8 rfl) rfl (fun c => ?_) (fun c => ?_)
    · have h := gI_neg h c
      refine lv_aload_n X.1 X.2.1 (dck_at da_X12_again 13 rfl) rfl (lv_at hl 0 rfl) ?_
      refine gr_getI X G Y fk_RX12_107 clM_0 rfl (dck_at da_X12_again 14 rfl) ?_
      refine lv_if_ge (tgt := 37) X.1 X.2.1 (dck_at da_X12_again 15 rfl) rfl (fun c => ?_) (fun c => ?_)
      · have h := gI_pos h c
        refine lv_bipush X.1 X.2.1 (dck_at da_X12_again 20 rfl) kb_m4 ?_
        refine lv_istore_n (lv' := [(3, .int (-4 : Int32)), (0, .ref (ad 0)), (1, .int a1), (2, .int a2)]) X.1 X.2.1 (dck_at da_X12_again 21 rfl) rfl hl (by decide) rfl (fun ls hl => ?_)
        refine lv_ldc2 X.1 X.2.1 X.2.2.2.1 (X.2.2.2.2 _ wm_1295) (dck_at da_X12_again 22 rfl) ?_
        refine lv_lstore (lv' := [(4, .long (-1 : Int64)), (3, .int (-4 : Int32)), (0, .ref (ad 0)), (1, .int a1), (2, .int a2)]) X.1 X.2.1 (dck_at da_X12_again 23 rfl) hl (by decide) rfl (fun ls hl => ?_)
        refine lv_ldc2 X.1 X.2.1 X.2.2.2.1 (X.2.2.2.2 _ wm_1295) (dck_at da_X12_again 24 rfl) ?_
        refine lv_lstore (lv' := [(6, .long (-1 : Int64)), (4, .long (-1 : Int64)), (3, .int (-4 : Int32)), (0, .ref (ad 0)), (1, .int a1), (2, .int a2)]) X.1 X.2.1 (dck_at da_X12_again 25 rfl) hl (by decide) rfl (fun ls hl => ?_)
        refine lv_iconst X.1 X.2.1 (dck_at da_X12_again 26 rfl) ki_0 ?_
        refine lv_istore (lv' := [(8, .int (0 : Int32)), (6, .long (-1 : Int64)), (4, .long (-1 : Int64)), (3, .int (-4 : Int32)), (0, .ref (ad 0)), (1, .int a1), (2, .int a2)]) X.1 X.2.1 (dck_at da_X12_again 27 rfl) hl (by decide) rfl (fun ls hl => ?_)
        exact b53 F a1 a2 (-4 : Int32) (-1 : Int64) (-1 : Int64) (0 : Int32) s5 _ _ _ h Y (lv_sub hl [4, 5, 6, 3, 2, 1, 0] rfl)
      · have h := gI_neg h c
        refine lv_aload_n X.1 X.2.1 (dck_at da_X12_again 16 rfl) rfl (lv_at hl 0 rfl) ?_
        refine lv_bipush X.1 X.2.1 (dck_at da_X12_again 17 rfl) kb_m2 ?_
        obtain ⟨r6, s6, hc, h⟩ := gB2_some h
        refine gr_backi Y (gr_runV (as := [.int (-2 : Int32)]) (rest := []) X G Y (ok_m_tells hc) cv_RX12_130 clM_0 ⟨Nat.le_of_ble_eq_true rfl, Nat.le_of_ble_eq_true rfl⟩ rfl hl.1 (Nat.le_of_ble_eq_true rfl) (dck_at da_X12_again 18 rfl)) (fun H locs Y => ?_)
        exact gr_iretO X Y h hr rfl hlk (dck_at da_X12_again 19 rfl)
    · have h := gI_pos h c
      exact b17 s5 _ _ _ h Y (lv_sub hl [0] rfl)
set_option maxRecDepth 100000 in
set_option maxHeartbeats 4000000 in
theorem ok_m_apart {l : Launch} {D : va_G} {cy : Nat → ClassId} {ad sa : Nat → Nat} {A : Nat → Prop} {F : Nat} {a0 : Int32} {a1 : Int32} {s0 : St} {ρ : Int32} {σ' : St} (h : m_apart F a0 a1 s0 = some (ρ, σ')) : gMi l shM D cy ad sa A yX12_apart cX12_apart 4 (some .int) 2 [.int a0, .int a1] s0 ρ σ' := by
  refine gM_of (by decide) (Nat.le_of_ble_eq_true rfl) ?_
  intro p e s m args below meth c ls X G Y hr hlk hl
  have hl : lv_has ls 4 [(0, .int a0), (1, .int a1)] := hl
  unfold m_apart at h
  refine lv_iload_n X.1 X.2.1 (dck_at da_X12_apart 0 rfl) rfl (lv_at hl 0 rfl) ?_
  refine lv_bipush X.1 X.2.1 (dck_at da_X12_apart 1 rfl) kb_12 ?_
  refine lv_idiv X.1 X.2.1 (dck_at da_X12_apart 2 rfl) (by decide) ?_
  refine lv_iload_n X.1 X.2.1 (dck_at da_X12_apart 3 rfl) rfl (lv_at hl 1 rfl) ?_
  refine lv_bipush X.1 X.2.1 (dck_at da_X12_apart 4 rfl) kb_12 ?_
  refine lv_idiv X.1 X.2.1 (dck_at da_X12_apart 5 rfl) (by decide) ?_
  refine lv_isub X.1 X.2.1 (dck_at da_X12_apart 6 rfl) ?_
  obtain ⟨r1, s1, hc, h⟩ := gB2_some h
  refine gr_backi Y (gr_runS (as := [.int ((a0 / (12 : Int32)) - (a1 / (12 : Int32)))]) (rest := []) X G Y (ok_m_size hc) cs_RX12_263 ⟨Nat.le_of_ble_eq_true rfl, Nat.le_of_ble_eq_true rfl⟩ rfl hl.1 (Nat.le_of_ble_eq_true rfl) (dck_at da_X12_apart 7 rfl)) (fun H locs Y => ?_)
  refine lv_istore_n (lv' := [(2, .int r1), (0, .int a0), (1, .int a1)]) X.1 X.2.1 (dck_at da_X12_apart 8 rfl) rfl hl (by decide) rfl (fun ls hl => ?_)
  refine lv_iload_n X.1 X.2.1 (dck_at da_X12_apart 9 rfl) rfl (lv_at hl 1 rfl) ?_
  refine lv_bipush X.1 X.2.1 (dck_at da_X12_apart 10 rfl) kb_12 ?_
  refine lv_irem X.1 X.2.1 (dck_at da_X12_apart 11 rfl) (by decide) ?_
  refine lv_iload_n X.1 X.2.1 (dck_at da_X12_apart 12 rfl) rfl (lv_at hl 2 rfl) ?_
  refine lv_bipush X.1 X.2.1 (dck_at da_X12_apart 13 rfl) kb_12 ?_
  refine lv_irem X.1 X.2.1 (dck_at da_X12_apart 14 rfl) (by decide) ?_
  refine lv_isub X.1 X.2.1 (dck_at da_X12_apart 15 rfl) ?_
  obtain ⟨r2, s2, hc, h⟩ := gB2_some h
  refine gr_backi Y (gr_runS (as := [.int ((a0 - a0 / (12 : Int32) * (12 : Int32)) - (a1 - a1 / (12 : Int32) * (12 : Int32)))]) (rest := []) X G Y (ok_m_size hc) cs_RX12_263 ⟨Nat.le_of_ble_eq_true rfl, Nat.le_of_ble_eq_true rfl⟩ rfl hl.1 (Nat.le_of_ble_eq_true rfl) (dck_at da_X12_apart 16 rfl)) (fun H locs Y => ?_)
  refine lv_istore_n (lv' := [(3, .int r2), (2, .int r1), (0, .int a0), (1, .int a1)]) X.1 X.2.1 (dck_at da_X12_apart 17 rfl) rfl hl (by decide) rfl (fun ls hl => ?_)
  refine lv_iload_n X.1 X.2.1 (dck_at da_X12_apart 18 rfl) rfl (lv_at hl 1 rfl) ?_
  refine lv_iload_n X.1 X.2.1 (dck_at da_X12_apart 19 rfl) rfl (lv_at hl 0 rfl) ?_
  refine lv_icmp_le (tgt := 35) X.1 X.2.1 (dck_at da_X12_apart 20 rfl) rfl (fun c => ?_) (fun c => ?_)
  · have h := gI_pos h c
    refine lv_iload_n X.1 X.2.1 (dck_at da_X12_apart 23 rfl) rfl (lv_at hl 0 rfl) ?_
    exact gr_iretO X Y h hr rfl hlk (dck_at da_X12_apart 24 rfl)
  · have h := gI_neg h c
    refine lv_iload_n X.1 X.2.1 (dck_at da_X12_apart 21 rfl) rfl (lv_at hl 1 rfl) ?_
    refine lv_goto (tgt := 36) X.1 X.2.1 (dck_at da_X12_apart 22 rfl) rfl ?_
    exact gr_iretO X Y h hr rfl hlk (dck_at da_X12_apart 24 rfl)
set_option maxRecDepth 100000 in
set_option maxHeartbeats 4000000 in
theorem ok_m_isCall {l : Launch} {D : va_G} {cy : Nat → ClassId} {ad sa : Nat → Nat} {A : Nat → Prop} {F : Nat} {a0 : Int32} {a1 : Int32} {a2 : Int32} {s0 : St} {ρ : Int32} {σ' : St} (h : m_isCall F a0 a1 a2 s0 = some (ρ, σ')) : gMi l shM D cy ad sa A yX12_isCall cX12_isCall 3 (some .boolean) 3 [.int a0, .int a1, .int a2] s0 ρ σ' := by
  refine gM_of (by decide) (Nat.le_of_ble_eq_true rfl) ?_
  intro p e s m args below meth c ls X G Y hr hlk hl
  have hl : lv_has ls 3 [(0, .int a0), (1, .int a1), (2, .int a2)] := hl
  have b35 : ∀  (s0 : St) (H : Heap) (locs : List Loc) (ls : Array Slot), m_isCall_J35 F  s0 = some (ρ, σ') → gY shM D cy ad A s0 s H locs → lv_has ls 3 [] → W p l e (grm 3) s m args below meth c H locs 0 0 (MQ below (va_Qi (fun (q : Int32) (_ : Unit) => q = ρ) (fun _ t => va_P D vwCl (gWl shM cy ad σ') t.heap) A) args s 0 0 A) (F0 m 35 ls []) := by
    intro s0 H locs ls h Y hl
    unfold m_isCall_J35 at h
    refine lv_iconst X.1 X.2.1 (dck_at da_X12_isCall 17 rfl) ki_0 ?_
    exact gr_iretO X Y h hr rfl hlk (dck_at da_X12_isCall 18 rfl)
  unfold m_isCall at h
  refine lv_iload_n X.1 X.2.1 (dck_at da_X12_isCall 0 rfl) rfl (lv_at hl 0 rfl) ?_
  obtain ⟨r1, s1, hc, h⟩ := gB2_some h
  refine gr_backi Y (gr_runS (as := [.int a0]) (rest := []) X G Y (ok_m_isCell hc) cs_RX12_138 ⟨Nat.le_of_ble_eq_true rfl, Nat.le_of_ble_eq_true rfl⟩ rfl hl.1 (Nat.le_of_ble_eq_true rfl) (dck_at da_X12_isCall 1 rfl)) (fun H locs Y => ?_)
  refine lv_if_eq (tgt := 35) X.1 X.2.1 (dck_at da_X12_isCall 2 rfl) rfl (fun c => ?_) (fun c => ?_)
  · have h := gI_pos h c
    exact b35 s1 _ _ _ h Y (lv_sub hl [] rfl)
  · have h := gI_neg h c
    refine lv_iload_n X.1 X.2.1 (dck_at da_X12_isCall 3 rfl) rfl (lv_at hl 1 rfl) ?_
    refine lv_i2l (v := (a1).toInt64) X.1 X.2.1 (dck_at da_X12_isCall 4 rfl) rfl ?_
    refine lv_lconst (v := 0) X.1 X.2.1 (dck_at da_X12_isCall 5 rfl) rfl ?_
    refine lv_ldc2 X.1 X.2.1 X.2.2.2.1 (X.2.2.2.2 _ wm_1313) (dck_at da_X12_isCall 6 rfl) ?_
    obtain ⟨r2, s2, hc, h⟩ := gB2_some h
    refine gr_backi Y (gr_runS (as := [.long ((a1).toInt64), .long (0 : Int64), .long (9 : Int64)]) (rest := []) X G Y (ok_m_in hc) cs_RX12_126 ⟨Nat.le_of_ble_eq_true rfl, Nat.le_of_ble_eq_true rfl⟩ rfl hl.1 (Nat.le_of_ble_eq_true rfl) (dck_at da_X12_isCall 7 rfl)) (fun H locs Y => ?_)
    refine lv_if_eq (tgt := 35) X.1 X.2.1 (dck_at da_X12_isCall 8 rfl) rfl (fun c => ?_) (fun c => ?_)
    · have h := gI_pos h c
      exact b35 s2 _ _ _ h Y (lv_sub hl [] rfl)
    · have h := gI_neg h c
      refine lv_iload_n X.1 X.2.1 (dck_at da_X12_isCall 9 rfl) rfl (lv_at hl 2 rfl) ?_
      refine lv_i2l (v := (a2).toInt64) X.1 X.2.1 (dck_at da_X12_isCall 10 rfl) rfl ?_
      refine lv_lconst (v := 0) X.1 X.2.1 (dck_at da_X12_isCall 11 rfl) rfl ?_
      refine lv_ldc2 X.1 X.2.1 X.2.2.2.1 (X.2.2.2.2 _ wm_1495) (dck_at da_X12_isCall 12 rfl) ?_
      obtain ⟨r3, s3, hc, h⟩ := gB2_some h
      refine gr_backi Y (gr_runS (as := [.long ((a2).toInt64), .long (0 : Int64), .long (15 : Int64)]) (rest := []) X G Y (ok_m_in hc) cs_RX12_126 ⟨Nat.le_of_ble_eq_true rfl, Nat.le_of_ble_eq_true rfl⟩ rfl hl.1 (Nat.le_of_ble_eq_true rfl) (dck_at da_X12_isCall 13 rfl)) (fun H locs Y => ?_)
      refine lv_if_eq (tgt := 35) X.1 X.2.1 (dck_at da_X12_isCall 14 rfl) rfl (fun c => ?_) (fun c => ?_)
      · have h := gI_pos h c
        exact b35 s3 _ _ _ h Y (lv_sub hl [] rfl)
      · have h := gI_neg h c
        refine lv_iconst X.1 X.2.1 (dck_at da_X12_isCall 15 rfl) ki_1 ?_
        refine lv_goto (tgt := 36) X.1 X.2.1 (dck_at da_X12_isCall 16 rfl) rfl ?_
        exact gr_iretO X Y h hr rfl hlk (dck_at da_X12_isCall 18 rfl)
set_option maxRecDepth 100000 in
set_option maxHeartbeats 4000000 in
theorem ok_m_call {l : Launch} {D : va_G} {cy : Nat → ClassId} {ad sa : Nat → Nat} {A : Nat → Prop} {F : Nat} {a1 : Int32} {a2 : Int32} {a3 : Int32} {s0 : St} {ρ : Int32} {σ' : St} (h : m_call F a1 a2 a3 s0 = some (ρ, σ')) : gMi l shM D cy ad sa A yX12_call cX12_call 7 (some .int) 4 [.ref (ad 0), .int a1, .int a2, .int a3] s0 ρ σ' := by
  refine gM_of (by decide) (Nat.le_of_ble_eq_true rfl) ?_
  intro p e s m args below meth c ls X G Y hr hlk hl
  have hl : lv_has ls 7 [(0, .ref (ad 0)), (1, .int a1), (2, .int a2), (3, .int a3)] := hl
  have b52 : ∀ n : Nat, ∀ (x1 : Int32) (x2 : Int32) (x3 : Int32) (x4 : Int64) (x6 : Int32) (s0 : St) (H : Heap) (locs : List Loc) (ls : Array Slot), m_call_L52 F  n x1 x2 x3 x4 x6 s0 = some (ρ, σ') → gY shM D cy ad A s0 s H locs → lv_has ls 7 [(0, .ref (ad 0)), (1, .int x1), (2, .int x2), (3, .int x3), (4, .long x4), (6, .int x6)] → W p l e (grm 4) s m args below meth c H locs 0 0 (MQ below (va_Qi (fun (q : Int32) (_ : Unit) => q = ρ) (fun _ t => va_P D vwCl (gWl shM cy ad σ') t.heap) A) args s 0 0 A) (F0 m 52 ls []) := by
    intro n
    induction n with
    | zero => intro x1 x2 x3 x4 x6 s0 H locs ls h Y hl; exact (gnone h).elim
    | succ n hk52 =>
      have e : m_call_L52 F  (n + 1) = m_call_L52b F  (m_call_L52 F  n) := rfl
      rw [e]; clear e
      generalize m_call_L52 F  n = k52 at hk52 ⊢
      have b105 : ∀ (x1 : Int32) (x2 : Int32) (x3 : Int32) (x4 : Int64) (x6 : Int32) (y1 : Int32) (y2 : Int64) (s0 : St) (H : Heap) (locs : List Loc) (ls : Array Slot), m_call_J105 F k52 x1 x2 x3 x4 x6 y1 y2 s0 = some (ρ, σ') → gY shM D cy ad A s0 s H locs → lv_has ls 7 [(0, .ref (ad 0)), (1, .int x1), (2, .int x2), (3, .int x3), (4, .long x4), (6, .int x6)] → W p l e (grm 4) s m args below meth c H locs 0 0 (MQ below (va_Qi (fun (q : Int32) (_ : Unit) => q = ρ) (fun _ t => va_P D vwCl (gWl shM cy ad σ') t.heap) A) args s 0 0 A) (F0 m 105 ls [.long y2, .int y1, .ref (ad 9)]) := by
        intro x1 x2 x3 x4 x6 y1 y2 s0 H locs ls h Y hl
        unfold m_call_J105 at h
        obtain ⟨hin, h⟩ := gI_if h
        refine gr_last X G Y clM_9 hin (dck_at da_X12_call 58 rfl) (fun H locs Y => ?_)
        refine lv_iinc (v := x6 + (1 : Int32)) (lv' := [(6, .int (x6 + (1 : Int32))), (0, .ref (ad 0)), (1, .int x1), (2, .int x2), (3, .int x3), (4, .long x4)]) X.1 X.2.1 (dck_at da_X12_call 59 rfl) hl (k := 5) rfl (congrArg (HAdd.hAdd _) ki_1) (by decide) rfl (fun ls hl => ?_)
        refine lv_goto (tgt := 52) X.1 X.2.1 (dck_at da_X12_call 60 rfl) rfl ?_
        exact hk52 x1 x2 x3 x4 (x6 + (1 : Int32)) (sJ s0 9 (y1).toNatClampNeg y2) _ _ _ h Y (lv_sub hl [1, 2, 3, 4, 5, 0] rfl)
      intro x1 x2 x3 x4 x6 s0 H locs ls h Y hl
      unfold m_call_L52b at h
      refine lv_iload X.1 X.2.1 (dck_at da_X12_call 29 rfl) (lv_at hl 5 rfl) ?_
      refine lv_sipush X.1 X.2.1 (dck_at da_X12_call 30 rfl) ks_720 ?_
      refine lv_icmp_ge (tgt := 112) X.1 X.2.1 (dck_at da_X12_call 31 rfl) rfl (fun c => ?_) (fun c => ?_)
      · have h := gI_pos h c
        refine lv_aload_n X.1 X.2.1 (dck_at da_X12_call 61 rfl) rfl (lv_at hl 0 rfl) ?_
        obtain ⟨r1, s1, hc, h⟩ := gB2_some h
        refine gr_backl Y (gr_runV (as := []) (rest := []) X G Y (ok_m_all hc) cv_RX12_218 clM_0 ⟨Nat.le_of_ble_eq_true rfl, Nat.le_of_ble_eq_true rfl⟩ rfl hl.1 (Nat.le_of_ble_eq_true rfl) (dck_at da_X12_call 62 rfl)) (fun H locs Y => ?_)
        refine lv_ldc2 X.1 X.2.1 X.2.2.2.1 (X.2.2.2.2 _ wm_1443) (dck_at da_X12_call 63 rfl) ?_
        refine lv_lmul X.1 X.2.1 (dck_at da_X12_call 64 rfl) ?_
        refine lv_lload X.1 X.2.1 (dck_at da_X12_call 65 rfl) (lv_at hl 4 rfl) ?_
        obtain ⟨hz, h⟩ := gI_nz h
        refine lv_ldiv X.1 X.2.1 (dck_at da_X12_call 66 rfl) hz ?_
        refine lv_l2i (v := ((r1 * (1000 : Int64)) / x4).toInt32) X.1 X.2.1 (dck_at da_X12_call 67 rfl) rfl ?_
        exact gr_iretO X Y h hr rfl hlk (dck_at da_X12_call 68 rfl)
      · have h := gI_neg h c
        refine lv_aload_n X.1 X.2.1 (dck_at da_X12_call 32 rfl) rfl (lv_at hl 0 rfl) ?_
        refine gr_getR X G Y fk_RX12_34 clM_0 rfl (dck_at da_X12_call 33 rfl) ?_
        refine lv_iload X.1 X.2.1 (dck_at da_X12_call 34 rfl) (lv_at hl 5 rfl) ?_
        refine lv_iload X.1 X.2.1 (dck_at da_X12_call 35 rfl) (lv_at hl 5 rfl) ?_
        refine lv_iconst X.1 X.2.1 (dck_at da_X12_call 36 rfl) ki_5 ?_
        refine lv_idiv X.1 X.2.1 (dck_at da_X12_call 37 rfl) (by decide) ?_
        refine lv_iload_n X.1 X.2.1 (dck_at da_X12_call 38 rfl) rfl (lv_at hl 1 rfl) ?_
        obtain ⟨r2, s2, hc, h⟩ := gB2_some h
        refine gr_backi Y (gr_runS (as := [.int (x6 / (5 : Int32)), .int x1]) (rest := [.int x6, .ref (ad 9)]) X G Y (ok_m_apart hc) cs_RX12_285 ⟨Nat.le_of_ble_eq_true rfl, Nat.le_of_ble_eq_true rfl⟩ rfl hl.1 (Nat.le_of_ble_eq_true rfl) (dck_at da_X12_call 39 rfl)) (fun H locs Y => ?_)
        refine lv_iload_n X.1 X.2.1 (dck_at da_X12_call 40 rfl) rfl (lv_at hl 2 rfl) ?_
        refine lv_icmp_le (tgt := 98) X.1 X.2.1 (dck_at da_X12_call 41 rfl) rfl (fun c => ?_) (fun c => ?_)
        · have h := gI_pos h c
          refine lv_aload_n X.1 X.2.1 (dck_at da_X12_call 54 rfl) rfl (lv_at hl 0 rfl) ?_
          refine gr_getR X G Y fk_RX12_34 clM_0 rfl (dck_at da_X12_call 55 rfl) ?_
          refine lv_iload X.1 X.2.1 (dck_at da_X12_call 56 rfl) (lv_at hl 5 rfl) ?_
          obtain ⟨hin, h⟩ := gI_if h
          refine gr_lald X G Y clM_9 hin (dck_at da_X12_call 57 rfl) ?_
          exact b105 x1 x2 x3 x4 x6 x6 (s2.2 9 (x6).toNatClampNeg) s2 _ _ _ h Y (lv_sub hl [0, 1, 2, 3, 4, 5] rfl)
        · have h := gI_neg h c
          refine lv_aload_n X.1 X.2.1 (dck_at da_X12_call 42 rfl) rfl (lv_at hl 0 rfl) ?_
          refine gr_getR X G Y fk_RX12_34 clM_0 rfl (dck_at da_X12_call 43 rfl) ?_
          refine lv_iload X.1 X.2.1 (dck_at da_X12_call 44 rfl) (lv_at hl 5 rfl) ?_
          obtain ⟨hin, h⟩ := gI_if h
          refine gr_lald X G Y clM_9 hin (dck_at da_X12_call 45 rfl) ?_
          refine lv_bipush X.1 X.2.1 (dck_at da_X12_call 46 rfl) kb_16 ?_
          refine lv_iload_n X.1 X.2.1 (dck_at da_X12_call 47 rfl) rfl (lv_at hl 3 rfl) ?_
          refine lv_isub X.1 X.2.1 (dck_at da_X12_call 48 rfl) ?_
          refine lv_i2l (v := ((16 : Int32) - x3).toInt64) X.1 X.2.1 (dck_at da_X12_call 49 rfl) rfl ?_
          refine lv_lmul X.1 X.2.1 (dck_at da_X12_call 50 rfl) ?_
          refine lv_ldc2 X.1 X.2.1 X.2.2.2.1 (X.2.2.2.2 _ wm_1442) (dck_at da_X12_call 51 rfl) ?_
          refine lv_ldiv X.1 X.2.1 (dck_at da_X12_call 52 rfl) (by decide) ?_
          refine lv_goto (tgt := 105) X.1 X.2.1 (dck_at da_X12_call 53 rfl) rfl ?_
          exact b105 x1 x2 x3 x4 x6 x6 (((s2.2 9 (x6).toNatClampNeg) * (((16 : Int32) - x3).toInt64)) / (16 : Int64)) s2 _ _ _ h Y (lv_sub hl [0, 1, 2, 3, 4, 5] rfl)
  unfold m_call at h
  refine lv_iload_n X.1 X.2.1 (dck_at da_X12_call 0 rfl) rfl (lv_at hl 1 rfl) ?_
  refine lv_iload_n X.1 X.2.1 (dck_at da_X12_call 1 rfl) rfl (lv_at hl 2 rfl) ?_
  refine lv_iload_n X.1 X.2.1 (dck_at da_X12_call 2 rfl) rfl (lv_at hl 3 rfl) ?_
  obtain ⟨r3, s3, hc, h⟩ := gB2_some h
  refine gr_backi Y (gr_runS (as := [.int a1, .int a2, .int a3]) (rest := []) X G Y (ok_m_isCall hc) cs_RX12_281 ⟨Nat.le_of_ble_eq_true rfl, Nat.le_of_ble_eq_true rfl⟩ rfl hl.1 (Nat.le_of_ble_eq_true rfl) (dck_at da_X12_call 3 rfl)) (fun H locs Y => ?_)
  refine lv_if_ne (tgt := 15) X.1 X.2.1 (dck_at da_X12_call 4 rfl) rfl (fun c => ?_) (fun c => ?_)
  · have h := gI_neg h c
    refine lv_aload_n X.1 X.2.1 (dck_at da_X12_call 9 rfl) rfl (lv_at hl 0 rfl) ?_
    refine gr_getI X G Y fk_RX12_107 clM_0 rfl (dck_at da_X12_call 10 rfl) ?_
    refine lv_if_ge (tgt := 29) X.1 X.2.1 (dck_at da_X12_call 11 rfl) rfl (fun c => ?_) (fun c => ?_)
    · have h := gI_pos h c
      refine lv_aload_n X.1 X.2.1 (dck_at da_X12_call 16 rfl) rfl (lv_at hl 0 rfl) ?_
      obtain ⟨r4, s4, hc, h⟩ := gB2_some h
      refine gr_backl Y (gr_runV (as := []) (rest := []) X G Y (ok_m_all hc) cv_RX12_218 clM_0 ⟨Nat.le_of_ble_eq_true rfl, Nat.le_of_ble_eq_true rfl⟩ rfl hl.1 (Nat.le_of_ble_eq_true rfl) (dck_at da_X12_call 17 rfl)) (fun H locs Y => ?_)
      refine lv_lstore (lv' := [(4, .long r4), (0, .ref (ad 0)), (1, .int a1), (2, .int a2), (3, .int a3)]) X.1 X.2.1 (dck_at da_X12_call 18 rfl) hl (by decide) rfl (fun ls hl => ?_)
      refine lv_lload X.1 X.2.1 (dck_at da_X12_call 19 rfl) (lv_at hl 0 rfl) ?_
      refine lv_lconst (v := 0) X.1 X.2.1 (dck_at da_X12_call 20 rfl) rfl ?_
      refine W.lcmp X.1 X.2.1 (dck_at da_X12_call 21 rfl) ?_
      refine lv_if_ne (tgt := 49) X.1 X.2.1 (dck_at da_X12_call 22 rfl) rfl (fun c => ?_) (fun c => ?_)
      · have h := gI_neg h c
        refine lv_iconst X.1 X.2.1 (dck_at da_X12_call 27 rfl) ki_0 ?_
        refine lv_istore (lv' := [(6, .int (0 : Int32)), (4, .long r4), (0, .ref (ad 0)), (1, .int a1), (2, .int a2), (3, .int a3)]) X.1 X.2.1 (dck_at da_X12_call 28 rfl) hl (by decide) rfl (fun ls hl => ?_)
        exact b52 F a1 a2 a3 r4 (0 : Int32) s4 _ _ _ h Y (lv_sub hl [2, 3, 4, 5, 1, 0] rfl)
      · have h := gI_pos h c
        refine lv_aload_n X.1 X.2.1 (dck_at da_X12_call 23 rfl) rfl (lv_at hl 1 rfl) ?_
        refine lv_bipush X.1 X.2.1 (dck_at da_X12_call 24 rfl) kb_m4 ?_
        obtain ⟨r5, s5, hc, h⟩ := gB2_some h
        refine gr_backi Y (gr_runV (as := [.int (-4 : Int32)]) (rest := []) X G Y (ok_m_tells hc) cv_RX12_130 clM_0 ⟨Nat.le_of_ble_eq_true rfl, Nat.le_of_ble_eq_true rfl⟩ rfl hl.1 (Nat.le_of_ble_eq_true rfl) (dck_at da_X12_call 25 rfl)) (fun H locs Y => ?_)
        exact gr_iretO X Y h hr rfl hlk (dck_at da_X12_call 26 rfl)
    · have h := gI_neg h c
      refine lv_aload_n X.1 X.2.1 (dck_at da_X12_call 12 rfl) rfl (lv_at hl 0 rfl) ?_
      refine lv_bipush X.1 X.2.1 (dck_at da_X12_call 13 rfl) kb_m2 ?_
      obtain ⟨r6, s6, hc, h⟩ := gB2_some h
      refine gr_backi Y (gr_runV (as := [.int (-2 : Int32)]) (rest := []) X G Y (ok_m_tells hc) cv_RX12_130 clM_0 ⟨Nat.le_of_ble_eq_true rfl, Nat.le_of_ble_eq_true rfl⟩ rfl hl.1 (Nat.le_of_ble_eq_true rfl) (dck_at da_X12_call 14 rfl)) (fun H locs Y => ?_)
      exact gr_iretO X Y h hr rfl hlk (dck_at da_X12_call 15 rfl)
  · have h := gI_pos h c
    refine lv_aload_n X.1 X.2.1 (dck_at da_X12_call 5 rfl) rfl (lv_at hl 0 rfl) ?_
    refine lv_iconst X.1 X.2.1 (dck_at da_X12_call 6 rfl) ki_m1 ?_
    obtain ⟨r7, s7, hc, h⟩ := gB2_some h
    refine gr_backi Y (gr_runV (as := [.int (-1 : Int32)]) (rest := []) X G Y (ok_m_tells hc) cv_RX12_130 clM_0 ⟨Nat.le_of_ble_eq_true rfl, Nat.le_of_ble_eq_true rfl⟩ rfl hl.1 (Nat.le_of_ble_eq_true rfl) (dck_at da_X12_call 7 rfl)) (fun H locs Y => ?_)
    exact gr_iretO X Y h hr rfl hlk (dck_at da_X12_call 8 rfl)
set_option maxRecDepth 100000 in
set_option maxHeartbeats 4000000 in
theorem ok_m_truly {l : Launch} {D : va_G} {cy : Nat → ClassId} {ad sa : Nat → Nat} {A : Nat → Prop} {F : Nat} {a1 : Int32} {a2 : Int32} {a3 : Int32} {a4 : Int32} {s0 : St} {ρ : Int64} {σ' : St} (h : m_truly F a1 a2 a3 a4 s0 = some (ρ, σ')) : gMl l shM D cy ad sa A yX12_truly cX12_truly 12 (some .long) 4 [.ref (ad 0), .int a1, .int a2, .int a3, .int a4] s0 ρ σ' := by
  refine gM_of (by decide) (Nat.le_of_ble_eq_true rfl) ?_
  intro p e s m args below meth c ls X G Y hr hlk hl
  have hl : lv_has ls 12 [(0, .ref (ad 0)), (1, .int a1), (2, .int a2), (3, .int a3), (4, .int a4)] := hl
  have b20 : ∀  (s0 : St) (H : Heap) (locs : List Loc) (ls : Array Slot), m_truly_J20 F  s0 = some (ρ, σ') → gY shM D cy ad A s0 s H locs → lv_has ls 12 [(0, .ref (ad 0))] → W p l e (grm 4) s m args below meth c H locs 0 0 (MQ below (va_Ql (fun (q : Int64) (_ : Unit) => q = ρ) (fun _ t => va_P D vwCl (gWl shM cy ad σ') t.heap) A) args s 0 0 A) (F0 m 20 ls []) := by
    intro s0 H locs ls h Y hl
    unfold m_truly_J20 at h
    refine lv_aload_n X.1 X.2.1 (dck_at da_X12_truly 11 rfl) rfl (lv_at hl 0 rfl) ?_
    refine lv_ldc2 X.1 X.2.1 X.2.2.2.1 (X.2.2.2.2 _ wm_1295) (dck_at da_X12_truly 12 rfl) ?_
    obtain ⟨r1, s1, hc, h⟩ := gB2_some h
    refine gr_backl Y (gr_runV (as := [.long (-1 : Int64)]) (rest := []) X G Y (ok_m_says hc) cv_RX12_120 clM_0 ⟨Nat.le_of_ble_eq_true rfl, Nat.le_of_ble_eq_true rfl⟩ rfl hl.1 (Nat.le_of_ble_eq_true rfl) (dck_at da_X12_truly 13 rfl)) (fun H locs Y => ?_)
    exact gr_lretO X Y h hr hlk (dck_at da_X12_truly 14 rfl)
  have b73 : ∀ n : Nat, ∀ (x1 : Int32) (x2 : Int32) (x3 : Int32) (x4 : Int32) (x5 : Int64) (x7 : Int64) (x9 : Int32) (x10 : Int32) (s0 : St) (H : Heap) (locs : List Loc) (ls : Array Slot), m_truly_L73 F  n x1 x2 x3 x4 x5 x7 x9 x10 s0 = some (ρ, σ') → gY shM D cy ad A s0 s H locs → lv_has ls 12 [(0, .ref (ad 0)), (1, .int x1), (2, .int x2), (3, .int x3), (4, .int x4), (5, .long x5), (7, .long x7), (9, .int x9), (10, .int x10)] → W p l e (grm 4) s m args below meth c H locs 0 0 (MQ below (va_Ql (fun (q : Int64) (_ : Unit) => q = ρ) (fun _ t => va_P D vwCl (gWl shM cy ad σ') t.heap) A) args s 0 0 A) (F0 m 73 ls []) := by
    intro n
    induction n with
    | zero => intro x1 x2 x3 x4 x5 x7 x9 x10 s0 H locs ls h Y hl; exact (gnone h).elim
    | succ n hk73 =>
      have e : m_truly_L73 F  (n + 1) = m_truly_L73b F  (m_truly_L73 F  n) := rfl
      rw [e]; clear e
      generalize m_truly_L73 F  n = k73 at hk73 ⊢
      have b123 : ∀ (x1 : Int32) (x2 : Int32) (x3 : Int32) (x4 : Int32) (x5 : Int64) (x7 : Int64) (x10 : Int32) (y0 : Int32) (y1 : Int32) (s0 : St) (H : Heap) (locs : List Loc) (ls : Array Slot), m_truly_J123 F k73 x1 x2 x3 x4 x5 x7 x10 y0 y1 s0 = some (ρ, σ') → gY shM D cy ad A s0 s H locs → lv_has ls 12 [(0, .ref (ad 0)), (1, .int x1), (2, .int x2), (3, .int x3), (4, .int x4), (5, .long x5), (7, .long x7), (10, .int x10)] → W p l e (grm 4) s m args below meth c H locs 0 0 (MQ below (va_Ql (fun (q : Int64) (_ : Unit) => q = ρ) (fun _ t => va_P D vwCl (gWl shM cy ad σ') t.heap) A) args s 0 0 A) (F0 m 123 ls [.int y1, .int y0]) := by
        intro x1 x2 x3 x4 x5 x7 x10 y0 y1 s0 H locs ls h Y hl
        unfold m_truly_J123 at h
        refine lv_iadd X.1 X.2.1 (dck_at da_X12_truly 64 rfl) ?_
        refine lv_istore (lv' := [(9, .int (y0 + y1)), (0, .ref (ad 0)), (1, .int x1), (2, .int x2), (3, .int x3), (4, .int x4), (5, .long x5), (7, .long x7), (10, .int x10)]) X.1 X.2.1 (dck_at da_X12_truly 65 rfl) hl (by decide) rfl (fun ls hl => ?_)
        refine lv_iinc (v := x10 + (1 : Int32)) (lv' := [(10, .int (x10 + (1 : Int32))), (9, .int (y0 + y1)), (0, .ref (ad 0)), (1, .int x1), (2, .int x2), (3, .int x3), (4, .int x4), (5, .long x5), (7, .long x7)]) X.1 X.2.1 (dck_at da_X12_truly 66 rfl) hl (k := 8) rfl (congrArg (HAdd.hAdd _) ki_1) (by decide) rfl (fun ls hl => ?_)
        refine lv_goto (tgt := 73) X.1 X.2.1 (dck_at da_X12_truly 67 rfl) rfl ?_
        exact hk73 x1 x2 x3 x4 x5 x7 (y0 + y1) (x10 + (1 : Int32)) s0 _ _ _ h Y (lv_sub hl [2, 3, 4, 5, 6, 7, 8, 1, 0] rfl)
      have b103 : ∀ (x1 : Int32) (x2 : Int32) (x3 : Int32) (x4 : Int32) (x5 : Int64) (x9 : Int32) (x10 : Int32) (y0 : Int64) (y1 : Int64) (s0 : St) (H : Heap) (locs : List Loc) (ls : Array Slot), m_truly_J103 F k73 x1 x2 x3 x4 x5 x9 x10 y0 y1 s0 = some (ρ, σ') → gY shM D cy ad A s0 s H locs → lv_has ls 12 [(0, .ref (ad 0)), (1, .int x1), (2, .int x2), (3, .int x3), (4, .int x4), (5, .long x5), (9, .int x9), (10, .int x10)] → W p l e (grm 4) s m args below meth c H locs 0 0 (MQ below (va_Ql (fun (q : Int64) (_ : Unit) => q = ρ) (fun _ t => va_P D vwCl (gWl shM cy ad σ') t.heap) A) args s 0 0 A) (F0 m 103 ls [.long y1, .long y0]) := by
        intro x1 x2 x3 x4 x5 x9 x10 y0 y1 s0 H locs ls h Y hl
        unfold m_truly_J103 at h
        refine lv_ladd X.1 X.2.1 (dck_at da_X12_truly 53 rfl) ?_
        refine lv_lstore (lv' := [(7, .long (y0 + y1)), (0, .ref (ad 0)), (1, .int x1), (2, .int x2), (3, .int x3), (4, .int x4), (5, .long x5), (9, .int x9), (10, .int x10)]) X.1 X.2.1 (dck_at da_X12_truly 54 rfl) hl (by decide) rfl (fun ls hl => ?_)
        refine lv_iload X.1 X.2.1 (dck_at da_X12_truly 55 rfl) (lv_at hl 7 rfl) ?_
        refine lv_iload X.1 X.2.1 (dck_at da_X12_truly 56 rfl) (lv_at hl 8 rfl) ?_
        refine lv_iload_n X.1 X.2.1 (dck_at da_X12_truly 57 rfl) rfl (lv_at hl 2 rfl) ?_
        obtain ⟨r2, s2, hc, h⟩ := gB2_some h
        refine gr_backi Y (gr_runS (as := [.int x10, .int x1]) (rest := [.int x9]) X G Y (ok_m_apart hc) cs_RX12_285 ⟨Nat.le_of_ble_eq_true rfl, Nat.le_of_ble_eq_true rfl⟩ rfl hl.1 (Nat.le_of_ble_eq_true rfl) (dck_at da_X12_truly 58 rfl)) (fun H locs Y => ?_)
        refine lv_iload_n X.1 X.2.1 (dck_at da_X12_truly 59 rfl) rfl (lv_at hl 3 rfl) ?_
        refine lv_icmp_le (tgt := 122) X.1 X.2.1 (dck_at da_X12_truly 60 rfl) rfl (fun c => ?_) (fun c => ?_)
        · have h := gI_pos h c
          refine lv_iconst X.1 X.2.1 (dck_at da_X12_truly 63 rfl) ki_1 ?_
          exact b123 x1 x2 x3 x4 x5 (y0 + y1) x10 x9 (1 : Int32) s2 _ _ _ h Y (lv_sub hl [1, 2, 3, 4, 5, 6, 0, 8] rfl)
        · have h := gI_neg h c
          refine lv_iconst X.1 X.2.1 (dck_at da_X12_truly 61 rfl) ki_0 ?_
          refine lv_goto (tgt := 123) X.1 X.2.1 (dck_at da_X12_truly 62 rfl) rfl ?_
          exact b123 x1 x2 x3 x4 x5 (y0 + y1) x10 x9 (0 : Int32) s2 _ _ _ h Y (lv_sub hl [1, 2, 3, 4, 5, 6, 0, 8] rfl)
      intro x1 x2 x3 x4 x5 x7 x9 x10 s0 H locs ls h Y hl
      unfold m_truly_L73b at h
      refine lv_iload X.1 X.2.1 (dck_at da_X12_truly 39 rfl) (lv_at hl 8 rfl) ?_
      refine lv_sipush X.1 X.2.1 (dck_at da_X12_truly 40 rfl) ks_144 ?_
      refine lv_icmp_ge (tgt := 132) X.1 X.2.1 (dck_at da_X12_truly 41 rfl) rfl (fun c => ?_) (fun c => ?_)
      · have h := gI_pos h c
        refine lv_lload X.1 X.2.1 (dck_at da_X12_truly 68 rfl) (lv_at hl 6 rfl) ?_
        refine lv_iload_n X.1 X.2.1 (dck_at da_X12_truly 69 rfl) rfl (lv_at hl 3 rfl) ?_
        refine lv_i2l (v := (x3).toInt64) X.1 X.2.1 (dck_at da_X12_truly 70 rfl) rfl ?_
        refine lv_lmul X.1 X.2.1 (dck_at da_X12_truly 71 rfl) ?_
        refine lv_ldc2 X.1 X.2.1 X.2.2.2.1 (X.2.2.2.2 _ wm_1503) (dck_at da_X12_truly 72 rfl) ?_
        refine lv_lmul X.1 X.2.1 (dck_at da_X12_truly 73 rfl) ?_
        refine lv_lstore (lv' := [(10, .long ((x7 * ((x3).toInt64)) * (144 : Int64))), (0, .ref (ad 0)), (1, .int x1), (2, .int x2), (3, .int x3), (4, .int x4), (5, .long x5), (7, .long x7), (9, .int x9)]) X.1 X.2.1 (dck_at da_X12_truly 74 rfl) hl (by decide) rfl (fun ls hl => ?_)
        refine lv_lload X.1 X.2.1 (dck_at da_X12_truly 75 rfl) (lv_at hl 0 rfl) ?_
        refine lv_lload X.1 X.2.1 (dck_at da_X12_truly 76 rfl) (lv_at hl 0 rfl) ?_
        refine lv_lload X.1 X.2.1 (dck_at da_X12_truly 77 rfl) (lv_at hl 6 rfl) ?_
        refine lv_bipush X.1 X.2.1 (dck_at da_X12_truly 78 rfl) kb_16 ?_
        refine lv_iload_n X.1 X.2.1 (dck_at da_X12_truly 79 rfl) rfl (lv_at hl 4 rfl) ?_
        refine lv_isub X.1 X.2.1 (dck_at da_X12_truly 80 rfl) ?_
        refine lv_i2l (v := ((16 : Int32) - x3).toInt64) X.1 X.2.1 (dck_at da_X12_truly 81 rfl) rfl ?_
        refine lv_lmul X.1 X.2.1 (dck_at da_X12_truly 82 rfl) ?_
        refine lv_iload X.1 X.2.1 (dck_at da_X12_truly 83 rfl) (lv_at hl 8 rfl) ?_
        refine lv_i2l (v := (x9).toInt64) X.1 X.2.1 (dck_at da_X12_truly 84 rfl) rfl ?_
        refine lv_lmul X.1 X.2.1 (dck_at da_X12_truly 85 rfl) ?_
        refine lv_ladd X.1 X.2.1 (dck_at da_X12_truly 86 rfl) ?_
        refine lv_iload X.1 X.2.1 (dck_at da_X12_truly 87 rfl) (lv_at hl 5 rfl) ?_
        obtain ⟨r3, s3, hc, h⟩ := gB2_some h
        refine gr_backl Y (gr_runS (as := [.long ((x7 * ((x3).toInt64)) * (144 : Int64)), .long (((x7 * ((x3).toInt64)) * (144 : Int64)) + ((x5 * (((16 : Int32) - x3).toInt64)) * ((x9).toInt64))), .int x4]) (rest := []) X G Y (ok_m_lowest hc) cs_RX12_224 ⟨Nat.le_of_ble_eq_true rfl, Nat.le_of_ble_eq_true rfl⟩ rfl hl.1 (Nat.le_of_ble_eq_true rfl) (dck_at da_X12_truly 88 rfl)) (fun H locs Y => ?_)
        exact gr_lretO X Y h hr hlk (dck_at da_X12_truly 89 rfl)
      · have h := gI_neg h c
        refine lv_lload X.1 X.2.1 (dck_at da_X12_truly 42 rfl) (lv_at hl 6 rfl) ?_
        refine lv_iload X.1 X.2.1 (dck_at da_X12_truly 43 rfl) (lv_at hl 8 rfl) ?_
        refine lv_iload_n X.1 X.2.1 (dck_at da_X12_truly 44 rfl) rfl (lv_at hl 1 rfl) ?_
        obtain ⟨r4, s4, hc, h⟩ := gB2_some h
        refine gr_backi Y (gr_runS (as := [.int x10, .int x1]) (rest := [.long x7]) X G Y (ok_m_apart hc) cs_RX12_285 ⟨Nat.le_of_ble_eq_true rfl, Nat.le_of_ble_eq_true rfl⟩ rfl hl.1 (Nat.le_of_ble_eq_true rfl) (dck_at da_X12_truly 45 rfl)) (fun H locs Y => ?_)
        refine lv_iload_n X.1 X.2.1 (dck_at da_X12_truly 46 rfl) rfl (lv_at hl 2 rfl) ?_
        refine lv_icmp_le (tgt := 97) X.1 X.2.1 (dck_at da_X12_truly 47 rfl) rfl (fun c => ?_) (fun c => ?_)
        · have h := gI_pos h c
          refine lv_aload_n X.1 X.2.1 (dck_at da_X12_truly 50 rfl) rfl (lv_at hl 0 rfl) ?_
          refine lv_iload X.1 X.2.1 (dck_at da_X12_truly 51 rfl) (lv_at hl 8 rfl) ?_
          obtain ⟨r5, s5, hc, h⟩ := gB2_some h
          refine gr_backl Y (gr_runV (as := [.int x10]) (rest := [.long x7]) X G Y (ok_m_partsOf hc) cv_RX12_214 clM_0 ⟨Nat.le_of_ble_eq_true rfl, Nat.le_of_ble_eq_true rfl⟩ rfl hl.1 (Nat.le_of_ble_eq_true rfl) (dck_at da_X12_truly 52 rfl)) (fun H locs Y => ?_)
          exact b103 x1 x2 x3 x4 x5 x9 x10 x7 r5 s5 _ _ _ h Y (lv_sub hl [0, 1, 2, 3, 4, 5, 7, 8] rfl)
        · have h := gI_neg h c
          refine lv_lconst (v := 0) X.1 X.2.1 (dck_at da_X12_truly 48 rfl) rfl ?_
          refine lv_goto (tgt := 103) X.1 X.2.1 (dck_at da_X12_truly 49 rfl) rfl ?_
          exact b103 x1 x2 x3 x4 x5 x9 x10 x7 (0 : Int64) s4 _ _ _ h Y (lv_sub hl [0, 1, 2, 3, 4, 5, 7, 8] rfl)
  unfold m_truly at h
  refine lv_iload_n X.1 X.2.1 (dck_at da_X12_truly 0 rfl) rfl (lv_at hl 1 rfl) ?_
  refine lv_iload_n X.1 X.2.1 (dck_at da_X12_truly 1 rfl) rfl (lv_at hl 2 rfl) ?_
  refine lv_iload_n X.1 X.2.1 (dck_at da_X12_truly 2 rfl) rfl (lv_at hl 3 rfl) ?_
  obtain ⟨r6, s6, hc, h⟩ := gB2_some h
  refine gr_backi Y (gr_runS (as := [.int a1, .int a2, .int a3]) (rest := []) X G Y (ok_m_isCall hc) cs_RX12_281 ⟨Nat.le_of_ble_eq_true rfl, Nat.le_of_ble_eq_true rfl⟩ rfl hl.1 (Nat.le_of_ble_eq_true rfl) (dck_at da_X12_truly 3 rfl)) (fun H locs Y => ?_)
  refine lv_if_eq (tgt := 20) X.1 X.2.1 (dck_at da_X12_truly 4 rfl) rfl (fun c => ?_) (fun c => ?_)
  · have h := gI_pos h c
    exact b20 s6 _ _ _ h Y (lv_sub hl [0] rfl)
  · have h := gI_neg h c
    refine lv_iload X.1 X.2.1 (dck_at da_X12_truly 5 rfl) (lv_at hl 4 rfl) ?_
    refine lv_i2l (v := (a4).toInt64) X.1 X.2.1 (dck_at da_X12_truly 6 rfl) rfl ?_
    refine lv_lconst (v := 0) X.1 X.2.1 (dck_at da_X12_truly 7 rfl) rfl ?_
    refine lv_lconst (v := 1) X.1 X.2.1 (dck_at da_X12_truly 8 rfl) rfl ?_
    obtain ⟨r7, s7, hc, h⟩ := gB2_some h
    refine gr_backi Y (gr_runS (as := [.long ((a4).toInt64), .long (0 : Int64), .long (1 : Int64)]) (rest := []) X G Y (ok_m_in hc) cs_RX12_126 ⟨Nat.le_of_ble_eq_true rfl, Nat.le_of_ble_eq_true rfl⟩ rfl hl.1 (Nat.le_of_ble_eq_true rfl) (dck_at da_X12_truly 9 rfl)) (fun H locs Y => ?_)
    refine lv_if_ne (tgt := 28) X.1 X.2.1 (dck_at da_X12_truly 10 rfl) rfl (fun c => ?_) (fun c => ?_)
    · have h := gI_neg h c
      refine lv_aload_n X.1 X.2.1 (dck_at da_X12_truly 15 rfl) rfl (lv_at hl 0 rfl) ?_
      refine gr_getI X G Y fk_RX12_107 clM_0 rfl (dck_at da_X12_truly 16 rfl) ?_
      refine lv_if_ge (tgt := 43) X.1 X.2.1 (dck_at da_X12_truly 17 rfl) rfl (fun c => ?_) (fun c => ?_)
      · have h := gI_pos h c
        refine lv_aload_n X.1 X.2.1 (dck_at da_X12_truly 22 rfl) rfl (lv_at hl 0 rfl) ?_
        obtain ⟨r8, s8, hc, h⟩ := gB2_some h
        refine gr_backl Y (gr_runV (as := []) (rest := []) X G Y (ok_m_all hc) cv_RX12_218 clM_0 ⟨Nat.le_of_ble_eq_true rfl, Nat.le_of_ble_eq_true rfl⟩ rfl hl.1 (Nat.le_of_ble_eq_true rfl) (dck_at da_X12_truly 23 rfl)) (fun H locs Y => ?_)
        refine lv_lstore (lv' := [(5, .long r8), (0, .ref (ad 0)), (1, .int a1), (2, .int a2), (3, .int a3), (4, .int a4)]) X.1 X.2.1 (dck_at da_X12_truly 24 rfl) hl (by decide) rfl (fun ls hl => ?_)
        refine lv_lload X.1 X.2.1 (dck_at da_X12_truly 25 rfl) (lv_at hl 0 rfl) ?_
        refine lv_lconst (v := 0) X.1 X.2.1 (dck_at da_X12_truly 26 rfl) rfl ?_
        refine W.lcmp X.1 X.2.1 (dck_at da_X12_truly 27 rfl) ?_
        refine lv_if_ne (tgt := 64) X.1 X.2.1 (dck_at da_X12_truly 28 rfl) rfl (fun c => ?_) (fun c => ?_)
        · have h := gI_neg h c
          refine lv_lconst (v := 0) X.1 X.2.1 (dck_at da_X12_truly 33 rfl) rfl ?_
          refine lv_lstore (lv' := [(7, .long (0 : Int64)), (5, .long r8), (0, .ref (ad 0)), (1, .int a1), (2, .int a2), (3, .int a3), (4, .int a4)]) X.1 X.2.1 (dck_at da_X12_truly 34 rfl) hl (by decide) rfl (fun ls hl => ?_)
          refine lv_iconst X.1 X.2.1 (dck_at da_X12_truly 35 rfl) ki_0 ?_
          refine lv_istore (lv' := [(9, .int (0 : Int32)), (7, .long (0 : Int64)), (5, .long r8), (0, .ref (ad 0)), (1, .int a1), (2, .int a2), (3, .int a3), (4, .int a4)]) X.1 X.2.1 (dck_at da_X12_truly 36 rfl) hl (by decide) rfl (fun ls hl => ?_)
          refine lv_iconst X.1 X.2.1 (dck_at da_X12_truly 37 rfl) ki_0 ?_
          refine lv_istore (lv' := [(10, .int (0 : Int32)), (9, .int (0 : Int32)), (7, .long (0 : Int64)), (5, .long r8), (0, .ref (ad 0)), (1, .int a1), (2, .int a2), (3, .int a3), (4, .int a4)]) X.1 X.2.1 (dck_at da_X12_truly 38 rfl) hl (by decide) rfl (fun ls hl => ?_)
          exact b73 F a1 a2 a3 a4 r8 (0 : Int64) (0 : Int32) (0 : Int32) s8 _ _ _ h Y (lv_sub hl [4, 5, 6, 7, 8, 3, 2, 1, 0] rfl)
        · have h := gI_pos h c
          refine lv_aload_n X.1 X.2.1 (dck_at da_X12_truly 29 rfl) rfl (lv_at hl 1 rfl) ?_
          refine lv_ldc2 X.1 X.2.1 X.2.2.2.1 (X.2.2.2.2 _ wm_1408) (dck_at da_X12_truly 30 rfl) ?_
          obtain ⟨r9, s9, hc, h⟩ := gB2_some h
          refine gr_backl Y (gr_runV (as := [.long (-4 : Int64)]) (rest := []) X G Y (ok_m_says hc) cv_RX12_120 clM_0 ⟨Nat.le_of_ble_eq_true rfl, Nat.le_of_ble_eq_true rfl⟩ rfl hl.1 (Nat.le_of_ble_eq_true rfl) (dck_at da_X12_truly 31 rfl)) (fun H locs Y => ?_)
          exact gr_lretO X Y h hr hlk (dck_at da_X12_truly 32 rfl)
      · have h := gI_neg h c
        refine lv_aload_n X.1 X.2.1 (dck_at da_X12_truly 18 rfl) rfl (lv_at hl 0 rfl) ?_
        refine lv_ldc2 X.1 X.2.1 X.2.2.2.1 (X.2.2.2.2 _ wm_1464) (dck_at da_X12_truly 19 rfl) ?_
        obtain ⟨r10, s10, hc, h⟩ := gB2_some h
        refine gr_backl Y (gr_runV (as := [.long (-2 : Int64)]) (rest := []) X G Y (ok_m_says hc) cv_RX12_120 clM_0 ⟨Nat.le_of_ble_eq_true rfl, Nat.le_of_ble_eq_true rfl⟩ rfl hl.1 (Nat.le_of_ble_eq_true rfl) (dck_at da_X12_truly 20 rfl)) (fun H locs Y => ?_)
        exact gr_lretO X Y h hr hlk (dck_at da_X12_truly 21 rfl)
    · have h := gI_pos h c
      exact b20 s7 _ _ _ h Y (lv_sub hl [0] rfl)
set_option maxRecDepth 100000 in
set_option maxHeartbeats 4000000 in
theorem ok_m_job {l : Launch} {D : va_G} {cy : Nat → ClassId} {ad sa : Nat → Nat} {A : Nat → Prop} {F : Nat} {a1 : Int32} {a2 : Int32} {a3 : Int32} {s0 : St} {ρ : Int32} {σ' : St} (h : m_job F a1 a2 a3 s0 = some (ρ, σ')) : gMi l shM D cy ad sa A yX12_job cX12_job 4 (some .int) 3 [.ref (ad 0), .int a1, .int a2, .int a3] s0 ρ σ' := by
  refine gM_of (by decide) (Nat.le_of_ble_eq_true rfl) ?_
  intro p e s m args below meth c ls X G Y hr hlk hl
  have hl : lv_has ls 4 [(0, .ref (ad 0)), (1, .int a1), (2, .int a2), (3, .int a3)] := hl
  have b26 : ∀  (s0 : St) (H : Heap) (locs : List Loc) (ls : Array Slot), m_job_J26 F  s0 = some (ρ, σ') → gY shM D cy ad A s0 s H locs → lv_has ls 4 [(0, .ref (ad 0))] → W p l e (grm 3) s m args below meth c H locs 0 0 (MQ below (va_Qi (fun (q : Int32) (_ : Unit) => q = ρ) (fun _ t => va_P D vwCl (gWl shM cy ad σ') t.heap) A) args s 0 0 A) (F0 m 26 ls []) := by
    intro s0 H locs ls h Y hl
    unfold m_job_J26 at h
    refine lv_aload_n X.1 X.2.1 (dck_at da_X12_job 12 rfl) rfl (lv_at hl 0 rfl) ?_
    refine lv_iconst X.1 X.2.1 (dck_at da_X12_job 13 rfl) ki_m1 ?_
    obtain ⟨r1, s1, hc, h⟩ := gB2_some h
    refine gr_backi Y (gr_runV (as := [.int (-1 : Int32)]) (rest := []) X G Y (ok_m_tells hc) cv_RX12_130 clM_0 ⟨Nat.le_of_ble_eq_true rfl, Nat.le_of_ble_eq_true rfl⟩ rfl hl.1 (Nat.le_of_ble_eq_true rfl) (dck_at da_X12_job 14 rfl)) (fun H locs Y => ?_)
    exact gr_iretO X Y h hr rfl hlk (dck_at da_X12_job 15 rfl)
  unfold m_job at h
  refine lv_iload_n X.1 X.2.1 (dck_at da_X12_job 0 rfl) rfl (lv_at hl 1 rfl) ?_
  obtain ⟨r2, s2, hc, h⟩ := gB2_some h
  refine gr_backi Y (gr_runS (as := [.int a1]) (rest := []) X G Y (ok_m_isCell hc) cs_RX12_138 ⟨Nat.le_of_ble_eq_true rfl, Nat.le_of_ble_eq_true rfl⟩ rfl hl.1 (Nat.le_of_ble_eq_true rfl) (dck_at da_X12_job 1 rfl)) (fun H locs Y => ?_)
  refine lv_if_eq (tgt := 26) X.1 X.2.1 (dck_at da_X12_job 2 rfl) rfl (fun c => ?_) (fun c => ?_)
  · have h := gI_pos h c
    exact b26 s2 _ _ _ h Y (lv_sub hl [0] rfl)
  · have h := gI_neg h c
    refine lv_iload_n X.1 X.2.1 (dck_at da_X12_job 3 rfl) rfl (lv_at hl 2 rfl) ?_
    obtain ⟨r3, s3, hc, h⟩ := gB2_some h
    refine gr_backi Y (gr_runS (as := [.int a2]) (rest := []) X G Y (ok_m_isSort hc) cs_RX12_255 ⟨Nat.le_of_ble_eq_true rfl, Nat.le_of_ble_eq_true rfl⟩ rfl hl.1 (Nat.le_of_ble_eq_true rfl) (dck_at da_X12_job 4 rfl)) (fun H locs Y => ?_)
    refine lv_if_eq (tgt := 26) X.1 X.2.1 (dck_at da_X12_job 5 rfl) rfl (fun c => ?_) (fun c => ?_)
    · have h := gI_pos h c
      exact b26 s3 _ _ _ h Y (lv_sub hl [0] rfl)
    · have h := gI_neg h c
      refine lv_iload_n X.1 X.2.1 (dck_at da_X12_job 6 rfl) rfl (lv_at hl 3 rfl) ?_
      refine lv_i2l (v := (a3).toInt64) X.1 X.2.1 (dck_at da_X12_job 7 rfl) rfl ?_
      refine lv_lconst (v := 1) X.1 X.2.1 (dck_at da_X12_job 8 rfl) rfl ?_
      refine lv_ldc2 X.1 X.2.1 X.2.2.2.1 (X.2.2.2.2 _ wm_1374) (dck_at da_X12_job 9 rfl) ?_
      obtain ⟨r4, s4, hc, h⟩ := gB2_some h
      refine gr_backi Y (gr_runS (as := [.long ((a3).toInt64), .long (1 : Int64), .long (60 : Int64)]) (rest := []) X G Y (ok_m_in hc) cs_RX12_126 ⟨Nat.le_of_ble_eq_true rfl, Nat.le_of_ble_eq_true rfl⟩ rfl hl.1 (Nat.le_of_ble_eq_true rfl) (dck_at da_X12_job 10 rfl)) (fun H locs Y => ?_)
      refine lv_if_ne (tgt := 32) X.1 X.2.1 (dck_at da_X12_job 11 rfl) rfl (fun c => ?_) (fun c => ?_)
      · have h := gI_neg h c
        refine lv_aload_n X.1 X.2.1 (dck_at da_X12_job 16 rfl) rfl (lv_at hl 0 rfl) ?_
        refine gr_getI X G Y fk_RX12_234 clM_0 rfl (dck_at da_X12_job 17 rfl) ?_
        refine lv_bipush X.1 X.2.1 (dck_at da_X12_job 18 rfl) kb_6 ?_
        refine lv_icmp_ne (tgt := 48) X.1 X.2.1 (dck_at da_X12_job 19 rfl) rfl (fun c => ?_) (fun c => ?_)
        · have h := gI_neg h c
          refine lv_aload_n X.1 X.2.1 (dck_at da_X12_job 24 rfl) rfl (lv_at hl 0 rfl) ?_
          refine gr_getR X G Y fk_RX12_56 clM_0 rfl (dck_at da_X12_job 25 rfl) ?_
          refine lv_aload_n X.1 X.2.1 (dck_at da_X12_job 26 rfl) rfl (lv_at hl 0 rfl) ?_
          refine gr_getI X G Y fk_RX12_234 clM_0 rfl (dck_at da_X12_job 27 rfl) ?_
          refine lv_iload_n X.1 X.2.1 (dck_at da_X12_job 28 rfl) rfl (lv_at hl 1 rfl) ?_
          obtain ⟨hin, h⟩ := gI_if h
          refine gr_iast X G Y clM_16 hin (dck_at da_X12_job 29 rfl) (fun H locs Y => ?_)
          refine lv_aload_n X.1 X.2.1 (dck_at da_X12_job 30 rfl) rfl (lv_at hl 0 rfl) ?_
          refine gr_getR X G Y fk_RX12_59 clM_0 rfl (dck_at da_X12_job 31 rfl) ?_
          refine lv_aload_n X.1 X.2.1 (dck_at da_X12_job 32 rfl) rfl (lv_at hl 0 rfl) ?_
          refine gr_getI X G Y fk_RX12_234 clM_0 rfl (dck_at da_X12_job 33 rfl) ?_
          refine lv_iload_n X.1 X.2.1 (dck_at da_X12_job 34 rfl) rfl (lv_at hl 2 rfl) ?_
          obtain ⟨hin, h⟩ := gI_if h
          refine gr_iast X G Y clM_17 hin (dck_at da_X12_job 35 rfl) (fun H locs Y => ?_)
          refine lv_aload_n X.1 X.2.1 (dck_at da_X12_job 36 rfl) rfl (lv_at hl 0 rfl) ?_
          refine gr_getR X G Y fk_RX12_62 clM_0 rfl (dck_at da_X12_job 37 rfl) ?_
          refine lv_aload_n X.1 X.2.1 (dck_at da_X12_job 38 rfl) rfl (lv_at hl 0 rfl) ?_
          refine gr_getI X G Y fk_RX12_234 clM_0 rfl (dck_at da_X12_job 39 rfl) ?_
          refine lv_iload_n X.1 X.2.1 (dck_at da_X12_job 40 rfl) rfl (lv_at hl 3 rfl) ?_
          obtain ⟨hin, h⟩ := gI_if h
          refine gr_iast X G Y clM_18 hin (dck_at da_X12_job 41 rfl) (fun H locs Y => ?_)
          refine lv_aload_n X.1 X.2.1 (dck_at da_X12_job 42 rfl) rfl (lv_at hl 0 rfl) ?_
          refine lv_dup X.1 X.2.1 (dck_at da_X12_job 43 rfl) rfl ?_
          refine gr_getI X G Y fk_RX12_234 clM_0 rfl (dck_at da_X12_job 44 rfl) ?_
          refine lv_iconst X.1 X.2.1 (dck_at da_X12_job 45 rfl) ki_1 ?_
          refine lv_iadd X.1 X.2.1 (dck_at da_X12_job 46 rfl) ?_
          refine gr_putI X G Y fp_RX12_234 clM_0 rfl (dck_at da_X12_job 47 rfl) (fun H locs Y => ?_)
          refine lv_aload_n X.1 X.2.1 (dck_at da_X12_job 48 rfl) rfl (lv_at hl 0 rfl) ?_
          refine gr_getI X G Y fk_RX12_234 clM_0 rfl (dck_at da_X12_job 49 rfl) ?_
          refine lv_iconst X.1 X.2.1 (dck_at da_X12_job 50 rfl) ki_1 ?_
          refine lv_isub X.1 X.2.1 (dck_at da_X12_job 51 rfl) ?_
          exact gr_iretO X Y h hr rfl hlk (dck_at da_X12_job 52 rfl)
        · have h := gI_pos h c
          refine lv_aload_n X.1 X.2.1 (dck_at da_X12_job 20 rfl) rfl (lv_at hl 0 rfl) ?_
          refine lv_bipush X.1 X.2.1 (dck_at da_X12_job 21 rfl) kb_m3 ?_
          obtain ⟨r5, s5, hc, h⟩ := gB2_some h
          refine gr_backi Y (gr_runV (as := [.int (-3 : Int32)]) (rest := []) X G Y (ok_m_tells hc) cv_RX12_130 clM_0 ⟨Nat.le_of_ble_eq_true rfl, Nat.le_of_ble_eq_true rfl⟩ rfl hl.1 (Nat.le_of_ble_eq_true rfl) (dck_at da_X12_job 22 rfl)) (fun H locs Y => ?_)
          exact gr_iretO X Y h hr rfl hlk (dck_at da_X12_job 23 rfl)
      · have h := gI_pos h c
        exact b26 s4 _ _ _ h Y (lv_sub hl [0] rfl)
