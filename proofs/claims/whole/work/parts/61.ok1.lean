/-! each method does what its mirror says -/
set_option maxRecDepth 100000 in
set_option maxHeartbeats 4000000 in
theorem ok_c_Land_nextStop {l : Launch} {D : va_G} {cy : Nat → ClassId} {ad sa : Nat → Nat} {A : Nat → Prop} {F : Nat} {a1 : Int32} {s0 : St} {ρ : Int32} {σ' : St} (h : c_Land_nextStop F a1 s0 = some (ρ, σ')) : gMi l shC D cy ad sa A yX3_nextStop cX3_nextStop 4 (some .int) 1 [.ref (ad 2), .int a1] s0 ρ σ' := by
  refine gM_of (by decide) (Nat.le_of_ble_eq_true rfl) ?_
  intro p e s m args below meth c ls X G Y hr hlk hl
  have hl : lv_has ls 4 [(0, .ref (ad 2)), (1, .int a1)] := hl
  have b2 : ∀ n : Nat, ∀ (x1 : Int32) (x2 : Int32) (s0 : St) (H : Heap) (locs : List Loc) (ls : Array Slot), c_Land_nextStop_L2 F  n x1 x2 s0 = some (ρ, σ') → gY shC D cy ad A s0 s H locs → lv_has ls 4 [(0, .ref (ad 2)), (1, .int x1), (2, .int x2)] → W p l e (grm 1) s m args below meth c H locs 0 0 (MQ below (va_Qi (fun (q : Int32) (_ : Unit) => q = ρ) (fun _ t => va_P D vwCl (gWl shC cy ad σ') t.heap) A) args s 0 0 A) (F0 m 2 ls []) := by
    intro n
    induction n with
    | zero => intro x1 x2 s0 H locs ls h Y hl; exact (gnone h).elim
    | succ n hk2 =>
      have e : c_Land_nextStop_L2 F  (n + 1) = c_Land_nextStop_L2b F  (c_Land_nextStop_L2 F  n) := rfl
      rw [e]; clear e
      generalize c_Land_nextStop_L2 F  n = k2 at hk2 ⊢
      intro x1 x2 s0 H locs ls h Y hl
      unfold c_Land_nextStop_L2b at h
      refine lv_iload_n X.1 X.2.1 (dck_at da_X3_nextStop 2 rfl) rfl (lv_at hl 2 rfl) ?_
      refine lv_sipush X.1 X.2.1 (dck_at da_X3_nextStop 3 rfl) ks_144 ?_
      refine lv_icmp_ge (tgt := 36) X.1 X.2.1 (dck_at da_X3_nextStop 4 rfl) rfl (fun c => ?_) (fun c => ?_)
      · have h := gI_pos h c
        refine lv_iload_n X.1 X.2.1 (dck_at da_X3_nextStop 21 rfl) rfl (lv_at hl 1 rfl) ?_
        exact gr_iretO X Y h hr rfl hlk (dck_at da_X3_nextStop 22 rfl)
      · have h := gI_neg h c
        refine lv_iload_n X.1 X.2.1 (dck_at da_X3_nextStop 5 rfl) rfl (lv_at hl 1 rfl) ?_
        refine lv_iload_n X.1 X.2.1 (dck_at da_X3_nextStop 6 rfl) rfl (lv_at hl 2 rfl) ?_
        refine lv_iadd X.1 X.2.1 (dck_at da_X3_nextStop 7 rfl) ?_
        refine lv_sipush X.1 X.2.1 (dck_at da_X3_nextStop 8 rfl) ks_144 ?_
        refine lv_irem X.1 X.2.1 (dck_at da_X3_nextStop 9 rfl) (by decide) ?_
        refine lv_istore_n (lv' := [(3, .int ((x1 + x2) - (x1 + x2) / (144 : Int32) * (144 : Int32))), (0, .ref (ad 2)), (1, .int x1), (2, .int x2)]) X.1 X.2.1 (dck_at da_X3_nextStop 10 rfl) rfl hl (by decide) rfl (fun ls hl => ?_)
        refine lv_aload_n X.1 X.2.1 (dck_at da_X3_nextStop 11 rfl) rfl (lv_at hl 1 rfl) ?_
        refine gr_getR X G Y fk_RX3_9 clC_2 rfl (dck_at da_X3_nextStop 12 rfl) ?_
        refine lv_iload_n X.1 X.2.1 (dck_at da_X3_nextStop 13 rfl) rfl (lv_at hl 0 rfl) ?_
        obtain ⟨hin, h⟩ := gI_if h
        refine gr_iald X G Y clC_3 hin (dck_at da_X3_nextStop 14 rfl) ?_
        refine lv_bipush X.1 X.2.1 (dck_at da_X3_nextStop 15 rfl) kb_6 ?_
        refine lv_icmp_ne (tgt := 30) X.1 X.2.1 (dck_at da_X3_nextStop 16 rfl) rfl (fun c => ?_) (fun c => ?_)
        · have h := gI_neg h c
          refine lv_iinc (v := x2 + (1 : Int32)) (lv' := [(2, .int (x2 + (1 : Int32))), (3, .int ((x1 + x2) - (x1 + x2) / (144 : Int32) * (144 : Int32))), (0, .ref (ad 2)), (1, .int x1)]) X.1 X.2.1 (dck_at da_X3_nextStop 19 rfl) hl (k := 3) rfl (congrArg (HAdd.hAdd _) ki_1) (by decide) rfl (fun ls hl => ?_)
          refine lv_goto (tgt := 2) X.1 X.2.1 (dck_at da_X3_nextStop 20 rfl) rfl ?_
          exact hk2 x1 (x2 + (1 : Int32)) s0 _ _ _ h Y (lv_sub hl [2, 3, 0] rfl)
        · have h := gI_pos h c
          refine lv_iload_n X.1 X.2.1 (dck_at da_X3_nextStop 17 rfl) rfl (lv_at hl 0 rfl) ?_
          exact gr_iretO X Y h hr rfl hlk (dck_at da_X3_nextStop 18 rfl)
  unfold c_Land_nextStop at h
  refine lv_iconst X.1 X.2.1 (dck_at da_X3_nextStop 0 rfl) ki_1 ?_
  refine lv_istore_n (lv' := [(2, .int (1 : Int32)), (0, .ref (ad 2)), (1, .int a1)]) X.1 X.2.1 (dck_at da_X3_nextStop 1 rfl) rfl hl (by decide) rfl (fun ls hl => ?_)
  exact b2 F a1 (1 : Int32) s0 _ _ _ h Y (lv_sub hl [1, 2, 0] rfl)
set_option maxRecDepth 100000 in
set_option maxHeartbeats 4000000 in
theorem ok_c_Land_lure {l : Launch} {D : va_G} {cy : Nat → ClassId} {ad sa : Nat → Nat} {A : Nat → Prop} {F : Nat} {a1 : Int32} {a2 : Int32} {s0 : St} {ρ : Int32} {σ' : St} (h : c_Land_lure F a1 a2 s0 = some (ρ, σ')) : gMi l shC D cy ad sa A yX3_lure cX3_lure 4 (some .int) 2 [.ref (ad 2), .int a1, .int a2] s0 ρ σ' := by
  refine gM_of (by decide) (Nat.le_of_ble_eq_true rfl) ?_
  intro p e s m args below meth c ls X G Y hr hlk hl
  have hl : lv_has ls 4 [(0, .ref (ad 2)), (1, .int a1), (2, .int a2)] := hl
  have b18 : ∀  (s0 : St) (H : Heap) (locs : List Loc) (ls : Array Slot), c_Land_lure_J18 F  s0 = some (ρ, σ') → gY shC D cy ad A s0 s H locs → lv_has ls 4 [] → W p l e (grm 2) s m args below meth c H locs 0 0 (MQ below (va_Qi (fun (q : Int32) (_ : Unit) => q = ρ) (fun _ t => va_P D vwCl (gWl shC cy ad σ') t.heap) A) args s 0 0 A) (F0 m 18 ls []) := by
    intro s0 H locs ls h Y hl
    unfold c_Land_lure_J18 at h
    refine lv_iconst X.1 X.2.1 (dck_at da_X3_lure 10 rfl) ki_0 ?_
    refine lv_goto (tgt := 30) X.1 X.2.1 (dck_at da_X3_lure 11 rfl) rfl ?_
    exact gr_iretO X Y h hr rfl hlk (dck_at da_X3_lure 18 rfl)
  unfold c_Land_lure at h
  refine lv_iload_n X.1 X.2.1 (dck_at da_X3_lure 0 rfl) rfl (lv_at hl 1 rfl) ?_
  refine lv_iload_n X.1 X.2.1 (dck_at da_X3_lure 1 rfl) rfl (lv_at hl 2 rfl) ?_
  obtain ⟨r1, s1, hc, h⟩ := gB2_some h
  refine gr_backi Y (gr_runS (as := [.int a1, .int a2]) (rest := []) X G Y (ok_c_Land_beside hc) cs_RX3_33 ⟨Nat.le_of_ble_eq_true rfl, Nat.le_of_ble_eq_true rfl⟩ rfl hl.1 (Nat.le_of_ble_eq_true rfl) (dck_at da_X3_lure 2 rfl)) (fun H locs Y => ?_)
  refine lv_istore_n (lv' := [(3, .int r1), (0, .ref (ad 2)), (1, .int a1), (2, .int a2)]) X.1 X.2.1 (dck_at da_X3_lure 3 rfl) rfl hl (by decide) rfl (fun ls hl => ?_)
  refine lv_iload_n X.1 X.2.1 (dck_at da_X3_lure 4 rfl) rfl (lv_at hl 0 rfl) ?_
  refine lv_if_lt (tgt := 18) X.1 X.2.1 (dck_at da_X3_lure 5 rfl) rfl (fun c => ?_) (fun c => ?_)
  · have h := gI_pos h c
    exact b18 s1 _ _ _ h Y (lv_sub hl [] rfl)
  · have h := gI_neg h c
    refine lv_aload_n X.1 X.2.1 (dck_at da_X3_lure 6 rfl) rfl (lv_at hl 1 rfl) ?_
    refine lv_iload_n X.1 X.2.1 (dck_at da_X3_lure 7 rfl) rfl (lv_at hl 0 rfl) ?_
    obtain ⟨r2, s2, hc, h⟩ := gB2_some h
    refine gr_backi Y (gr_runV (as := [.int r1]) (rest := []) X G Y (ok_c_Land_isBarred hc) cv_RX3_37 clC_2 ⟨Nat.le_of_ble_eq_true rfl, Nat.le_of_ble_eq_true rfl⟩ rfl hl.1 (Nat.le_of_ble_eq_true rfl) (dck_at da_X3_lure 8 rfl)) (fun H locs Y => ?_)
    refine lv_if_eq (tgt := 22) X.1 X.2.1 (dck_at da_X3_lure 9 rfl) rfl (fun c => ?_) (fun c => ?_)
    · have h := gI_pos h c
      refine lv_iconst X.1 X.2.1 (dck_at da_X3_lure 12 rfl) ki_1 ?_
      refine lv_aload_n X.1 X.2.1 (dck_at da_X3_lure 13 rfl) rfl (lv_at hl 1 rfl) ?_
      refine gr_getR X G Y fk_RX3_15 clC_2 rfl (dck_at da_X3_lure 14 rfl) ?_
      refine lv_iload_n X.1 X.2.1 (dck_at da_X3_lure 15 rfl) rfl (lv_at hl 0 rfl) ?_
      obtain ⟨hin, h⟩ := gI_if h
      refine gr_iald X G Y clC_4 hin (dck_at da_X3_lure 16 rfl) ?_
      refine lv_iadd X.1 X.2.1 (dck_at da_X3_lure 17 rfl) ?_
      exact gr_iretO X Y h hr rfl hlk (dck_at da_X3_lure 18 rfl)
    · have h := gI_neg h c
      exact b18 s2 _ _ _ h Y (lv_sub hl [] rfl)
set_option maxRecDepth 100000 in
set_option maxHeartbeats 4000000 in
theorem ok_c_Night_leave {l : Launch} {D : va_G} {cy : Nat → ClassId} {ad sa : Nat → Nat} {A : Nat → Prop} {F : Nat} {a3 : Int32} {s0 : St} {σ' : St} (h : c_Night_leave F a3 s0 = some σ') : gMv l shC D cy ad sa A yX6_leave cX6_leave 14 none 3 [.ref (ad 9), .ref (ad 2), .ref (ad 6), .int a3] s0 σ' := by
  refine gM_of (by decide) (Nat.le_of_ble_eq_true rfl) ?_
  intro p e s m args below meth c ls X G Y hr hlk hl
  have hl : lv_has ls 14 [(0, .ref (ad 9)), (1, .ref (ad 2)), (2, .ref (ad 6)), (3, .int a3)] := hl
  have b80 : ∀ n : Nat, ∀ (x3 : Int32) (x4 : Int32) (x5 : Int32) (x6 : Int32) (x7 : Int32) (s0 : St) (H : Heap) (locs : List Loc) (ls : Array Slot), c_Night_leave_L80 F  n x3 x4 x5 x6 x7 s0 = some σ' → gY shC D cy ad A s0 s H locs → lv_has ls 14 [(0, .ref (ad 9)), (2, .ref (ad 6)), (3, .int x3), (4, .int x4), (5, .int x5), (6, .int x6), (7, .int x7)] → W p l e (grm 3) s m args below meth c H locs 0 0 (MQ below (va_Qv (fun (_ : Unit) => True) (fun _ t => va_P D vwCl (gWl shC cy ad σ') t.heap) A) args s 0 0 A) (F0 m 80 ls []) := by
    intro n
    induction n with
    | zero => intro x3 x4 x5 x6 x7 s0 H locs ls h Y hl; exact (gnone h).elim
    | succ n hk80 =>
      have e : c_Night_leave_L80 F  (n + 1) = c_Night_leave_L80b F  (c_Night_leave_L80 F  n) := rfl
      rw [e]; clear e
      generalize c_Night_leave_L80 F  n = k80 at hk80 ⊢
      have b170 : ∀ (x3 : Int32) (x4 : Int32) (x5 : Int32) (x6 : Int32) (x7 : Int32) (s0 : St) (H : Heap) (locs : List Loc) (ls : Array Slot), c_Night_leave_J170 F k80 x3 x4 x5 x6 x7 s0 = some σ' → gY shC D cy ad A s0 s H locs → lv_has ls 14 [(0, .ref (ad 9)), (2, .ref (ad 6)), (3, .int x3), (4, .int x4), (5, .int x5), (6, .int x6), (7, .int x7)] → W p l e (grm 3) s m args below meth c H locs 0 0 (MQ below (va_Qv (fun (_ : Unit) => True) (fun _ t => va_P D vwCl (gWl shC cy ad σ') t.heap) A) args s 0 0 A) (F0 m 170 ls []) := by
        intro x3 x4 x5 x6 x7 s0 H locs ls h Y hl
        unfold c_Night_leave_J170 at h
        refine lv_iinc (v := x7 + (1 : Int32)) (lv' := [(7, .int (x7 + (1 : Int32))), (0, .ref (ad 9)), (2, .ref (ad 6)), (3, .int x3), (4, .int x4), (5, .int x5), (6, .int x6)]) X.1 X.2.1 (dck_at da_X6_leave 97 rfl) hl (k := 6) rfl (congrArg (HAdd.hAdd _) ki_1) (by decide) rfl (fun ls hl => ?_)
        refine lv_goto (tgt := 80) X.1 X.2.1 (dck_at da_X6_leave 98 rfl) rfl ?_
        exact hk80 x3 x4 x5 x6 (x7 + (1 : Int32)) s0 _ _ _ h Y (lv_sub hl [1, 2, 3, 4, 5, 6, 0] rfl)
      intro x3 x4 x5 x6 x7 s0 H locs ls h Y hl
      unfold c_Night_leave_L80b at h
      refine lv_iload X.1 X.2.1 (dck_at da_X6_leave 43 rfl) (lv_at hl 6 rfl) ?_
      refine lv_iconst X.1 X.2.1 (dck_at da_X6_leave 44 rfl) ki_4 ?_
      refine lv_icmp_ge (tgt := 176) X.1 X.2.1 (dck_at da_X6_leave 45 rfl) rfl (fun c => ?_) (fun c => ?_)
      · have h := gI_pos h c
        exact gr_vretO X Y h hr hlk (dck_at da_X6_leave 99 rfl)
      · have h := gI_neg h c
        refine lv_aload_n X.1 X.2.1 (dck_at da_X6_leave 46 rfl) rfl (lv_at hl 0 rfl) ?_
        refine gr_getR X G Y fk_RX6_9 clC_9 rfl (dck_at da_X6_leave 47 rfl) ?_
        refine lv_iload_n X.1 X.2.1 (dck_at da_X6_leave 48 rfl) rfl (lv_at hl 2 rfl) ?_
        refine lv_iconst X.1 X.2.1 (dck_at da_X6_leave 49 rfl) ki_4 ?_
        refine lv_imul X.1 X.2.1 (dck_at da_X6_leave 50 rfl) ?_
        refine lv_iload X.1 X.2.1 (dck_at da_X6_leave 51 rfl) (lv_at hl 6 rfl) ?_
        refine lv_iadd X.1 X.2.1 (dck_at da_X6_leave 52 rfl) ?_
        obtain ⟨hin, h⟩ := gI_if h
        refine gr_lald X G Y clC_10 hin (dck_at da_X6_leave 53 rfl) ?_
        refine lv_lstore (lv' := [(8, .long (s0.2 10 ((x3 * (4 : Int32)) + x7).toNatClampNeg)), (0, .ref (ad 9)), (2, .ref (ad 6)), (3, .int x3), (4, .int x4), (5, .int x5), (6, .int x6), (7, .int x7)]) X.1 X.2.1 (dck_at da_X6_leave 54 rfl) hl (by decide) rfl (fun ls hl => ?_)
        refine lv_lload X.1 X.2.1 (dck_at da_X6_leave 55 rfl) (lv_at hl 0 rfl) ?_
        refine lv_lconst (v := 0) X.1 X.2.1 (dck_at da_X6_leave 56 rfl) rfl ?_
        refine W.lcmp X.1 X.2.1 (dck_at da_X6_leave 57 rfl) ?_
        refine lv_if_gt (tgt := 109) X.1 X.2.1 (dck_at da_X6_leave 58 rfl) rfl (fun c => ?_) (fun c => ?_)
        · have h := gI_pos h c
          refine lv_iload X.1 X.2.1 (dck_at da_X6_leave 60 rfl) (lv_at hl 4 rfl) ?_
          refine lv_iload X.1 X.2.1 (dck_at da_X6_leave 61 rfl) (lv_at hl 5 rfl) ?_
          refine lv_iadd X.1 X.2.1 (dck_at da_X6_leave 62 rfl) ?_
          refine lv_aload_n X.1 X.2.1 (dck_at da_X6_leave 63 rfl) rfl (lv_at hl 1 rfl) ?_
          refine lv_aload_n X.1 X.2.1 (dck_at da_X6_leave 64 rfl) rfl (lv_at hl 2 rfl) ?_
          refine lv_iload X.1 X.2.1 (dck_at da_X6_leave 65 rfl) (lv_at hl 7 rfl) ?_
          obtain ⟨r1, s1, hc, h⟩ := gB2_some h
          refine gr_backi Y (gr_runV (as := [.ref (ad 6), .int x7]) (rest := [.int (x4 + x5)]) X G Y (ok_c_Night_pulls hc) cv_RX6_72 clC_9 ⟨Nat.le_of_ble_eq_true rfl, Nat.le_of_ble_eq_true rfl⟩ rfl hl.1 (Nat.le_of_ble_eq_true rfl) (dck_at da_X6_leave 66 rfl)) (fun H locs Y => ?_)
          refine lv_iadd X.1 X.2.1 (dck_at da_X6_leave 67 rfl) ?_
          refine lv_i2l (v := ((x4 + x5) + r1).toInt64) X.1 X.2.1 (dck_at da_X6_leave 68 rfl) rfl ?_
          refine lv_lstore (lv' := [(10, .long (((x4 + x5) + r1).toInt64)), (8, .long (s0.2 10 ((x3 * (4 : Int32)) + x7).toNatClampNeg)), (0, .ref (ad 9)), (2, .ref (ad 6)), (3, .int x3), (4, .int x4), (5, .int x5), (6, .int x6), (7, .int x7)]) X.1 X.2.1 (dck_at da_X6_leave 69 rfl) hl (by decide) rfl (fun ls hl => ?_)
          refine lv_aload_n X.1 X.2.1 (dck_at da_X6_leave 70 rfl) rfl (lv_at hl 2 rfl) ?_
          refine lv_aload_n X.1 X.2.1 (dck_at da_X6_leave 71 rfl) rfl (lv_at hl 3 rfl) ?_
          refine lv_iload_n X.1 X.2.1 (dck_at da_X6_leave 72 rfl) rfl (lv_at hl 4 rfl) ?_
          refine lv_iload X.1 X.2.1 (dck_at da_X6_leave 73 rfl) (lv_at hl 8 rfl) ?_
          refine lv_lload X.1 X.2.1 (dck_at da_X6_leave 74 rfl) (lv_at hl 0 rfl) ?_
          obtain ⟨r2, s2, hc, h⟩ := gB2_some h
          refine gr_backl Y (gr_runV (as := [.ref (ad 6), .int x3, .int x7, .long (((x4 + x5) + r1).toInt64)]) (rest := []) X G Y (ok_c_Night_turn hc) cv_RX6_76 clC_9 ⟨Nat.le_of_ble_eq_true rfl, Nat.le_of_ble_eq_true rfl⟩ rfl hl.1 (Nat.le_of_ble_eq_true rfl) (dck_at da_X6_leave 75 rfl)) (fun H locs Y => ?_)
          refine lv_aload_n X.1 X.2.1 (dck_at da_X6_leave 76 rfl) rfl (lv_at hl 2 rfl) ?_
          refine lv_iload X.1 X.2.1 (dck_at da_X6_leave 77 rfl) (lv_at hl 7 rfl) ?_
          refine lv_iload X.1 X.2.1 (dck_at da_X6_leave 78 rfl) (lv_at hl 8 rfl) ?_
          refine lv_lload X.1 X.2.1 (dck_at da_X6_leave 79 rfl) (lv_at hl 1 rfl) ?_
          refine lv_iload X.1 X.2.1 (dck_at da_X6_leave 80 rfl) (lv_at hl 6 rfl) ?_
          refine lv_i2l (v := (x5).toInt64) X.1 X.2.1 (dck_at da_X6_leave 81 rfl) rfl ?_
          refine lv_lload X.1 X.2.1 (dck_at da_X6_leave 82 rfl) (lv_at hl 0 rfl) ?_
          obtain ⟨r3, s3, hc, h⟩ := gB2_some h
          refine gr_backl Y (gr_runS (as := [.long (s0.2 10 ((x3 * (4 : Int32)) + x7).toNatClampNeg), .long ((x5).toInt64), .long (((x4 + x5) + r1).toInt64)]) (rest := [.int x7, .int x6, .ref (ad 9), .long r2]) X G Y (ok_c_Night_portion hc) cs_RX6_80 ⟨Nat.le_of_ble_eq_true rfl, Nat.le_of_ble_eq_true rfl⟩ rfl hl.1 (Nat.le_of_ble_eq_true rfl) (dck_at da_X6_leave 83 rfl)) (fun H locs Y => ?_)
          obtain ⟨r4, s4, hc, h⟩ := gB2_some h
          refine gr_backl Y (gr_runV (as := [.int x6, .int x7, .long r3]) (rest := [.long r2]) X G Y (ok_c_Night_arrive hc) cv_RX6_84 clC_9 ⟨Nat.le_of_ble_eq_true rfl, Nat.le_of_ble_eq_true rfl⟩ rfl hl.1 (Nat.le_of_ble_eq_true rfl) (dck_at da_X6_leave 84 rfl)) (fun H locs Y => ?_)
          refine lv_ladd X.1 X.2.1 (dck_at da_X6_leave 85 rfl) ?_
          refine lv_lstore (lv' := [(12, .long (r2 + r4)), (10, .long (((x4 + x5) + r1).toInt64)), (8, .long (s0.2 10 ((x3 * (4 : Int32)) + x7).toNatClampNeg)), (0, .ref (ad 9)), (2, .ref (ad 6)), (3, .int x3), (4, .int x4), (5, .int x5), (6, .int x6), (7, .int x7)]) X.1 X.2.1 (dck_at da_X6_leave 86 rfl) hl (by decide) rfl (fun ls hl => ?_)
          refine lv_aload_n X.1 X.2.1 (dck_at da_X6_leave 87 rfl) rfl (lv_at hl 3 rfl) ?_
          refine gr_getR X G Y fk_RX6_15 clC_9 rfl (dck_at da_X6_leave 88 rfl) ?_
          refine lv_iload_n X.1 X.2.1 (dck_at da_X6_leave 89 rfl) rfl (lv_at hl 5 rfl) ?_
          refine lv_dup2_11 X.1 X.2.1 (dck_at da_X6_leave 90 rfl) rfl rfl ?_
          obtain ⟨hin, h⟩ := gI_if h
          refine gr_lald X G Y clC_11 hin (dck_at da_X6_leave 91 rfl) ?_
          refine lv_lload X.1 X.2.1 (dck_at da_X6_leave 92 rfl) (lv_at hl 2 rfl) ?_
          refine lv_lload X.1 X.2.1 (dck_at da_X6_leave 93 rfl) (lv_at hl 0 rfl) ?_
          refine lv_lsub X.1 X.2.1 (dck_at da_X6_leave 94 rfl) ?_
          refine lv_ladd X.1 X.2.1 (dck_at da_X6_leave 95 rfl) ?_
          obtain ⟨hin, h⟩ := gI_if h
          refine gr_last X G Y clC_11 hin (dck_at da_X6_leave 96 rfl) (fun H locs Y => ?_)
          exact b170 x3 x4 x5 x6 x7 (sJ s4 11 (x3).toNatClampNeg ((s4.2 11 (x3).toNatClampNeg) + ((s0.2 10 ((x3 * (4 : Int32)) + x7).toNatClampNeg) - (r2 + r4)))) _ _ _ h Y (lv_sub hl [3, 4, 5, 6, 7, 8, 9] rfl)
        · have h := gI_neg h c
          refine lv_goto (tgt := 170) X.1 X.2.1 (dck_at da_X6_leave 59 rfl) rfl ?_
          exact b170 x3 x4 x5 x6 x7 s0 _ _ _ h Y (lv_sub hl [1, 2, 3, 4, 5, 6, 7] rfl)
  have b75 : ∀ (x3 : Int32) (x4 : Int32) (x5 : Int32) (y0 : Int32) (s0 : St) (H : Heap) (locs : List Loc) (ls : Array Slot), c_Night_leave_J75 F  x3 x4 x5 y0 s0 = some σ' → gY shC D cy ad A s0 s H locs → lv_has ls 14 [(0, .ref (ad 9)), (2, .ref (ad 6)), (3, .int x3), (4, .int x4), (5, .int x5)] → W p l e (grm 3) s m args below meth c H locs 0 0 (MQ below (va_Qv (fun (_ : Unit) => True) (fun _ t => va_P D vwCl (gWl shC cy ad σ') t.heap) A) args s 0 0 A) (F0 m 75 ls [.int y0]) := by
    intro x3 x4 x5 y0 s0 H locs ls h Y hl
    unfold c_Night_leave_J75 at h
    refine lv_istore (lv' := [(6, .int y0), (0, .ref (ad 9)), (2, .ref (ad 6)), (3, .int x3), (4, .int x4), (5, .int x5)]) X.1 X.2.1 (dck_at da_X6_leave 40 rfl) hl (by decide) rfl (fun ls hl => ?_)
    refine lv_iconst X.1 X.2.1 (dck_at da_X6_leave 41 rfl) ki_0 ?_
    refine lv_istore (lv' := [(7, .int (0 : Int32)), (6, .int y0), (0, .ref (ad 9)), (2, .ref (ad 6)), (3, .int x3), (4, .int x4), (5, .int x5)]) X.1 X.2.1 (dck_at da_X6_leave 42 rfl) hl (by decide) rfl (fun ls hl => ?_)
    exact b80 F x3 x4 x5 y0 (0 : Int32) s0 _ _ _ h Y (lv_sub hl [2, 3, 4, 5, 6, 1, 0] rfl)
  have b3 : ∀ n : Nat, ∀ (x3 : Int32) (x4 : Int32) (s0 : St) (H : Heap) (locs : List Loc) (ls : Array Slot), c_Night_leave_L3 F  n x3 x4 s0 = some σ' → gY shC D cy ad A s0 s H locs → lv_has ls 14 [(0, .ref (ad 9)), (1, .ref (ad 2)), (2, .ref (ad 6)), (3, .int x3), (4, .int x4)] → W p l e (grm 3) s m args below meth c H locs 0 0 (MQ below (va_Qv (fun (_ : Unit) => True) (fun _ t => va_P D vwCl (gWl shC cy ad σ') t.heap) A) args s 0 0 A) (F0 m 3 ls []) := by
    intro n
    induction n with
    | zero => intro x3 x4 s0 H locs ls h Y hl; exact (gnone h).elim
    | succ n hk3 =>
      have e : c_Night_leave_L3 F  (n + 1) = c_Night_leave_L3b F  (c_Night_leave_L3 F  n) := rfl
      rw [e]; clear e
      generalize c_Night_leave_L3 F  n = k3 at hk3 ⊢
      intro x3 x4 s0 H locs ls h Y hl
      unfold c_Night_leave_L3b at h
      refine lv_iload X.1 X.2.1 (dck_at da_X6_leave 2 rfl) (lv_at hl 4 rfl) ?_
      refine lv_iconst X.1 X.2.1 (dck_at da_X6_leave 3 rfl) ki_4 ?_
      refine lv_icmp_ge (tgt := 29) X.1 X.2.1 (dck_at da_X6_leave 4 rfl) rfl (fun c => ?_) (fun c => ?_)
      · have h := gI_pos h c
        refine lv_aload_n X.1 X.2.1 (dck_at da_X6_leave 15 rfl) rfl (lv_at hl 2 rfl) ?_
        refine lv_aload_n X.1 X.2.1 (dck_at da_X6_leave 16 rfl) rfl (lv_at hl 1 rfl) ?_
        refine gr_getR X G Y fk_RX6_57 clC_2 rfl (dck_at da_X6_leave 17 rfl) ?_
        refine lv_iload_n X.1 X.2.1 (dck_at da_X6_leave 18 rfl) rfl (lv_at hl 3 rfl) ?_
        obtain ⟨hin, h⟩ := gI_if h
        refine gr_iald X G Y clC_3 hin (dck_at da_X6_leave 19 rfl) ?_
        refine lv_aload_n X.1 X.2.1 (dck_at da_X6_leave 20 rfl) rfl (lv_at hl 0 rfl) ?_
        refine gr_getI X G Y fk_RX6_25 clC_9 rfl (dck_at da_X6_leave 21 rfl) ?_
        obtain ⟨r5, s5, hc, h⟩ := gB2_some h
        refine gr_backi Y (gr_runV (as := [.int (s0.1 3 (x3).toNatClampNeg), .int (s0.1 9 4)]) (rest := []) X G Y (ok_c_Law_sitDown hc) cv_RX6_60 clC_6 ⟨Nat.le_of_ble_eq_true rfl, Nat.le_of_ble_eq_true rfl⟩ rfl hl.1 (Nat.le_of_ble_eq_true rfl) (dck_at da_X6_leave 22 rfl)) (fun H locs Y => ?_)
        refine lv_istore (lv' := [(4, .int r5), (0, .ref (ad 9)), (1, .ref (ad 2)), (2, .ref (ad 6)), (3, .int x3)]) X.1 X.2.1 (dck_at da_X6_leave 23 rfl) hl (by decide) rfl (fun ls hl => ?_)
        refine lv_aload_n X.1 X.2.1 (dck_at da_X6_leave 24 rfl) rfl (lv_at hl 3 rfl) ?_
        refine lv_aload_n X.1 X.2.1 (dck_at da_X6_leave 25 rfl) rfl (lv_at hl 2 rfl) ?_
        refine gr_getR X G Y fk_RX6_57 clC_2 rfl (dck_at da_X6_leave 26 rfl) ?_
        refine lv_iload_n X.1 X.2.1 (dck_at da_X6_leave 27 rfl) rfl (lv_at hl 4 rfl) ?_
        obtain ⟨hin, h⟩ := gI_if h
        refine gr_iald X G Y clC_3 hin (dck_at da_X6_leave 28 rfl) ?_
        refine lv_aload_n X.1 X.2.1 (dck_at da_X6_leave 29 rfl) rfl (lv_at hl 1 rfl) ?_
        refine gr_getI X G Y fk_RX6_25 clC_9 rfl (dck_at da_X6_leave 30 rfl) ?_
        obtain ⟨r6, s6, hc, h⟩ := gB2_some h
        refine gr_backi Y (gr_runV (as := [.int (s5.1 3 (x3).toNatClampNeg), .int (s5.1 9 4)]) (rest := []) X G Y (ok_c_Law_rideOn hc) cv_RX6_65 clC_6 ⟨Nat.le_of_ble_eq_true rfl, Nat.le_of_ble_eq_true rfl⟩ rfl hl.1 (Nat.le_of_ble_eq_true rfl) (dck_at da_X6_leave 31 rfl)) (fun H locs Y => ?_)
        refine lv_istore (lv' := [(5, .int r6), (4, .int r5), (0, .ref (ad 9)), (1, .ref (ad 2)), (2, .ref (ad 6)), (3, .int x3)]) X.1 X.2.1 (dck_at da_X6_leave 32 rfl) hl (by decide) rfl (fun ls hl => ?_)
        refine lv_iload X.1 X.2.1 (dck_at da_X6_leave 33 rfl) (lv_at hl 0 rfl) ?_
        refine lv_if_le (tgt := 74) X.1 X.2.1 (dck_at da_X6_leave 34 rfl) rfl (fun c => ?_) (fun c => ?_)
        · have h := gI_pos h c
          refine lv_iload_n X.1 X.2.1 (dck_at da_X6_leave 39 rfl) rfl (lv_at hl 5 rfl) ?_
          exact b75 x3 r5 r6 x3 s6 _ _ _ h Y (lv_sub hl [2, 4, 5, 1, 0] rfl)
        · have h := gI_neg h c
          refine lv_aload_n X.1 X.2.1 (dck_at da_X6_leave 35 rfl) rfl (lv_at hl 3 rfl) ?_
          refine lv_iload_n X.1 X.2.1 (dck_at da_X6_leave 36 rfl) rfl (lv_at hl 5 rfl) ?_
          obtain ⟨r7, s7, hc, h⟩ := gB2_some h
          refine gr_backi Y (gr_runV (as := [.int x3]) (rest := []) X G Y (ok_c_Land_nextStop hc) cv_RX6_68 clC_2 ⟨Nat.le_of_ble_eq_true rfl, Nat.le_of_ble_eq_true rfl⟩ rfl hl.1 (Nat.le_of_ble_eq_true rfl) (dck_at da_X6_leave 37 rfl)) (fun H locs Y => ?_)
          refine lv_goto (tgt := 75) X.1 X.2.1 (dck_at da_X6_leave 38 rfl) rfl ?_
          exact b75 x3 r5 r6 r7 s7 _ _ _ h Y (lv_sub hl [2, 4, 5, 1, 0] rfl)
      · have h := gI_neg h c
        refine lv_aload_n X.1 X.2.1 (dck_at da_X6_leave 5 rfl) rfl (lv_at hl 0 rfl) ?_
        refine gr_getR X G Y fk_RX6_21 clC_9 rfl (dck_at da_X6_leave 6 rfl) ?_
        refine lv_iload X.1 X.2.1 (dck_at da_X6_leave 7 rfl) (lv_at hl 4 rfl) ?_
        refine lv_aload_n X.1 X.2.1 (dck_at da_X6_leave 8 rfl) rfl (lv_at hl 1 rfl) ?_
        refine lv_iload_n X.1 X.2.1 (dck_at da_X6_leave 9 rfl) rfl (lv_at hl 3 rfl) ?_
        refine lv_iload X.1 X.2.1 (dck_at da_X6_leave 10 rfl) (lv_at hl 4 rfl) ?_
        obtain ⟨r8, s8, hc, h⟩ := gB2_some h
        refine gr_backi Y (gr_runV (as := [.int x3, .int x4]) (rest := [.int x4, .ref (ad 13)]) X G Y (ok_c_Land_lure hc) cv_RX6_51 clC_2 ⟨Nat.le_of_ble_eq_true rfl, Nat.le_of_ble_eq_true rfl⟩ rfl hl.1 (Nat.le_of_ble_eq_true rfl) (dck_at da_X6_leave 11 rfl)) (fun H locs Y => ?_)
        obtain ⟨hin, h⟩ := gI_if h
        refine gr_iast X G Y clC_13 hin (dck_at da_X6_leave 12 rfl) (fun H locs Y => ?_)
        refine lv_iinc (v := x4 + (1 : Int32)) (lv' := [(4, .int (x4 + (1 : Int32))), (0, .ref (ad 9)), (1, .ref (ad 2)), (2, .ref (ad 6)), (3, .int x3)]) X.1 X.2.1 (dck_at da_X6_leave 13 rfl) hl (k := 4) rfl (congrArg (HAdd.hAdd _) ki_1) (by decide) rfl (fun ls hl => ?_)
        refine lv_goto (tgt := 3) X.1 X.2.1 (dck_at da_X6_leave 14 rfl) rfl ?_
        exact hk3 x3 (x4 + (1 : Int32)) (sI s8 13 (x4).toNatClampNeg r8) _ _ _ h Y (lv_sub hl [1, 2, 3, 4, 0] rfl)
  unfold c_Night_leave at h
  refine lv_iconst X.1 X.2.1 (dck_at da_X6_leave 0 rfl) ki_0 ?_
  refine lv_istore (lv' := [(4, .int (0 : Int32)), (0, .ref (ad 9)), (1, .ref (ad 2)), (2, .ref (ad 6)), (3, .int a3)]) X.1 X.2.1 (dck_at da_X6_leave 1 rfl) hl (by decide) rfl (fun ls hl => ?_)
  exact b3 F a3 (0 : Int32) s0 _ _ _ h Y (lv_sub hl [1, 2, 3, 4, 0] rfl)
set_option maxRecDepth 100000 in
set_option maxHeartbeats 4000000 in
theorem ok_c_Arrays_fill_d0a16_v2 {l : Launch} {D : va_G} {cy : Nat → ClassId} {ad sa : Nat → Nat} {A : Nat → Prop} {F : Nat} {a1 : Int64} {s0 : St} {σ' : St} (h : c_Arrays_fill_d0a16_v2 F a1 s0 = some σ') : gMv l shC D cy ad sa A yJ7_fill_d0a16 cJ7_fill_d0a16 5 none 1 [.ref (ad 12), .long a1] s0 σ' := by
  refine gM_of (by decide) (Nat.le_of_ble_eq_true rfl) ?_
  intro p e s m args below meth c ls X G Y hr hlk hl
  have hl : lv_has ls 5 [(0, .ref (ad 12)), (1, .long a1)] := hl
  have b6 : ∀ n : Nat, ∀ (x1 : Int64) (x3 : Int32) (x4 : Int32) (s0 : St) (H : Heap) (locs : List Loc) (ls : Array Slot), c_Arrays_fill_d0a16_v2_L6 F  n x1 x3 x4 s0 = some σ' → gY shC D cy ad A s0 s H locs → lv_has ls 5 [(0, .ref (ad 12)), (1, .long x1), (3, .int x3), (4, .int x4)] → W p l e (grm 1) s m args below meth c H locs 0 0 (MQ below (va_Qv (fun (_ : Unit) => True) (fun _ t => va_P D vwCl (gWl shC cy ad σ') t.heap) A) args s 0 0 A) (F0 m 6 ls []) := by
    intro n
    induction n with
    | zero => intro x1 x3 x4 s0 H locs ls h Y hl; exact (gnone h).elim
    | succ n hk6 =>
      have e : c_Arrays_fill_d0a16_v2_L6 F  (n + 1) = c_Arrays_fill_d0a16_v2_L6b F  (c_Arrays_fill_d0a16_v2_L6 F  n) := rfl
      rw [e]; clear e
      generalize c_Arrays_fill_d0a16_v2_L6 F  n = k6 at hk6 ⊢
      intro x1 x3 x4 s0 H locs ls h Y hl
      unfold c_Arrays_fill_d0a16_v2_L6b at h
      refine lv_iload_n X.1 X.2.1 (dck_at da_J7_fill_d0a16 5 rfl) rfl (lv_at hl 2 rfl) ?_
      refine lv_iload X.1 X.2.1 (dck_at da_J7_fill_d0a16 6 rfl) (lv_at hl 3 rfl) ?_
      refine lv_icmp_ge (tgt := 22) X.1 X.2.1 (dck_at da_J7_fill_d0a16 7 rfl) rfl (fun c => ?_) (fun c => ?_)
      · have h := gI_pos h c
        exact gr_vretO X Y h hr hlk (dck_at da_J7_fill_d0a16 14 rfl)
      · have h := gI_neg h c
        refine lv_aload_n X.1 X.2.1 (dck_at da_J7_fill_d0a16 8 rfl) rfl (lv_at hl 0 rfl) ?_
        refine lv_iload_n X.1 X.2.1 (dck_at da_J7_fill_d0a16 9 rfl) rfl (lv_at hl 2 rfl) ?_
        refine lv_lload_n X.1 X.2.1 (dck_at da_J7_fill_d0a16 10 rfl) rfl (lv_at hl 1 rfl) ?_
        obtain ⟨hin, h⟩ := gI_if h
        refine gr_last X G Y clC_12 hin (dck_at da_J7_fill_d0a16 11 rfl) (fun H locs Y => ?_)
        refine lv_iinc (v := x3 + (1 : Int32)) (lv' := [(3, .int (x3 + (1 : Int32))), (0, .ref (ad 12)), (1, .long x1), (4, .int x4)]) X.1 X.2.1 (dck_at da_J7_fill_d0a16 12 rfl) hl (k := 2) rfl (congrArg (HAdd.hAdd _) ki_1) (by decide) rfl (fun ls hl => ?_)
        refine lv_goto (tgt := 6) X.1 X.2.1 (dck_at da_J7_fill_d0a16 13 rfl) rfl ?_
        exact hk6 x1 (x3 + (1 : Int32)) x4 (sJ s0 12 (x3).toNatClampNeg x1) _ _ _ h Y (lv_sub hl [1, 2, 0, 3] rfl)
  unfold c_Arrays_fill_d0a16_v2 at h
  refine lv_iconst X.1 X.2.1 (dck_at da_J7_fill_d0a16 0 rfl) ki_0 ?_
  refine lv_istore_n (lv' := [(3, .int (0 : Int32)), (0, .ref (ad 12)), (1, .long a1)]) X.1 X.2.1 (dck_at da_J7_fill_d0a16 1 rfl) rfl hl (by decide) rfl (fun ls hl => ?_)
  refine lv_aload_n X.1 X.2.1 (dck_at da_J7_fill_d0a16 2 rfl) rfl (lv_at hl 1 rfl) ?_
  refine gr_alen (v := 576) X G Y clC_12 (by decide) rfl (dck_at da_J7_fill_d0a16 3 rfl) ?_
  refine lv_istore (lv' := [(4, .int (576 : Int32)), (3, .int (0 : Int32)), (0, .ref (ad 12)), (1, .long a1)]) X.1 X.2.1 (dck_at da_J7_fill_d0a16 4 rfl) hl (by decide) rfl (fun ls hl => ?_)
  exact b6 F a1 (0 : Int32) (576 : Int32) s0 _ _ _ h Y (lv_sub hl [2, 3, 1, 0] rfl)
set_option maxRecDepth 100000 in
set_option maxHeartbeats 4000000 in
theorem ok_c_Night_pass {l : Launch} {D : va_G} {cy : Nat → ClassId} {ad sa : Nat → Nat} {A : Nat → Prop} {F : Nat}  {s0 : St} {σ' : St} (h : c_Night_pass F s0 = some σ') : gMv l shC D cy ad sa A yX6_pass cX6_pass 4 none 4 [.ref (ad 9), .ref (ad 2), .ref (ad 6)] s0 σ' := by
  refine gM_of (by decide) (Nat.le_of_ble_eq_true rfl) ?_
  intro p e s m args below meth c ls X G Y hr hlk hl
  have hl : lv_has ls 4 [(0, .ref (ad 9)), (1, .ref (ad 2)), (2, .ref (ad 6))] := hl
  have b10 : ∀ n : Nat, ∀ (x3 : Int32) (s0 : St) (H : Heap) (locs : List Loc) (ls : Array Slot), c_Night_pass_L10 F  n x3 s0 = some σ' → gY shC D cy ad A s0 s H locs → lv_has ls 4 [(0, .ref (ad 9)), (1, .ref (ad 2)), (2, .ref (ad 6)), (3, .int x3)] → W p l e (grm 4) s m args below meth c H locs 0 0 (MQ below (va_Qv (fun (_ : Unit) => True) (fun _ t => va_P D vwCl (gWl shC cy ad σ') t.heap) A) args s 0 0 A) (F0 m 10 ls []) := by
    intro n
    induction n with
    | zero => intro x3 s0 H locs ls h Y hl; exact (gnone h).elim
    | succ n hk10 =>
      have e : c_Night_pass_L10 F  (n + 1) = c_Night_pass_L10b F  (c_Night_pass_L10 F  n) := rfl
      rw [e]; clear e
      generalize c_Night_pass_L10 F  n = k10 at hk10 ⊢
      have b39 : ∀ (x3 : Int32) (s0 : St) (H : Heap) (locs : List Loc) (ls : Array Slot), c_Night_pass_J39 F k10 x3 s0 = some σ' → gY shC D cy ad A s0 s H locs → lv_has ls 4 [(0, .ref (ad 9)), (1, .ref (ad 2)), (2, .ref (ad 6)), (3, .int x3)] → W p l e (grm 4) s m args below meth c H locs 0 0 (MQ below (va_Qv (fun (_ : Unit) => True) (fun _ t => va_P D vwCl (gWl shC cy ad σ') t.heap) A) args s 0 0 A) (F0 m 39 ls []) := by
        intro x3 s0 H locs ls h Y hl
        unfold c_Night_pass_J39 at h
        refine lv_iinc (v := x3 + (1 : Int32)) (lv' := [(3, .int (x3 + (1 : Int32))), (0, .ref (ad 9)), (1, .ref (ad 2)), (2, .ref (ad 6))]) X.1 X.2.1 (dck_at da_X6_pass 23 rfl) hl (k := 3) rfl (congrArg (HAdd.hAdd _) ki_1) (by decide) rfl (fun ls hl => ?_)
        refine lv_goto (tgt := 10) X.1 X.2.1 (dck_at da_X6_pass 24 rfl) rfl ?_
        exact hk10 (x3 + (1 : Int32)) s0 _ _ _ h Y (lv_sub hl [1, 2, 3, 0] rfl)
      intro x3 s0 H locs ls h Y hl
      unfold c_Night_pass_L10b at h
      refine lv_iload_n X.1 X.2.1 (dck_at da_X6_pass 6 rfl) rfl (lv_at hl 3 rfl) ?_
      refine lv_sipush X.1 X.2.1 (dck_at da_X6_pass 7 rfl) ks_144 ?_
      refine lv_icmp_ge (tgt := 45) X.1 X.2.1 (dck_at da_X6_pass 8 rfl) rfl (fun c => ?_) (fun c => ?_)
      · have h := gI_pos h c
        refine lv_aload_n X.1 X.2.1 (dck_at da_X6_pass 25 rfl) rfl (lv_at hl 0 rfl) ?_
        refine gr_getR X G Y fk_RX6_18 clC_9 rfl (dck_at da_X6_pass 26 rfl) ?_
        refine lv_iconst X.1 X.2.1 (dck_at da_X6_pass 27 rfl) ki_0 ?_
        refine lv_aload_n X.1 X.2.1 (dck_at da_X6_pass 28 rfl) rfl (lv_at hl 0 rfl) ?_
        refine gr_getR X G Y fk_RX6_9 clC_9 rfl (dck_at da_X6_pass 29 rfl) ?_
        refine lv_iconst X.1 X.2.1 (dck_at da_X6_pass 30 rfl) ki_0 ?_
        refine lv_sipush X.1 X.2.1 (dck_at da_X6_pass 31 rfl) ks_576 ?_
        obtain ⟨hin, h⟩ := gI_if h
        refine gr_cpJ X G Y hl.1 wm_650 ⟨wm_652, wm_651, wm_67⟩ clC_12 clC_10 hin ⟨Nat.le_of_ble_eq_true rfl, by decide +kernel⟩ (dck_at da_X6_pass 32 rfl) (fun H locs Y => ?_)
        refine lv_aload_n X.1 X.2.1 (dck_at da_X6_pass 33 rfl) rfl (lv_at hl 0 rfl) ?_
        refine lv_dup X.1 X.2.1 (dck_at da_X6_pass 34 rfl) rfl ?_
        refine gr_getI X G Y fk_RX6_25 clC_9 rfl (dck_at da_X6_pass 35 rfl) ?_
        refine lv_iconst X.1 X.2.1 (dck_at da_X6_pass 36 rfl) ki_1 ?_
        refine lv_iadd X.1 X.2.1 (dck_at da_X6_pass 37 rfl) ?_
        refine gr_putI X G Y fp_RX6_25 clC_9 rfl (dck_at da_X6_pass 38 rfl) (fun H locs Y => ?_)
        exact gr_vretO X Y h hr hlk (dck_at da_X6_pass 39 rfl)
      · have h := gI_neg h c
        refine lv_aload_n X.1 X.2.1 (dck_at da_X6_pass 9 rfl) rfl (lv_at hl 0 rfl) ?_
        refine lv_iload_n X.1 X.2.1 (dck_at da_X6_pass 10 rfl) rfl (lv_at hl 3 rfl) ?_
        obtain ⟨r1, s1, hc, h⟩ := gB2_some h
        refine gr_backl Y (gr_runV (as := [.int x3]) (rest := []) X G Y (ok_c_Night_together hc) cv_RX6_43 clC_9 ⟨Nat.le_of_ble_eq_true rfl, Nat.le_of_ble_eq_true rfl⟩ rfl hl.1 (Nat.le_of_ble_eq_true rfl) (dck_at da_X6_pass 11 rfl)) (fun H locs Y => ?_)
        refine lv_aload_n X.1 X.2.1 (dck_at da_X6_pass 12 rfl) rfl (lv_at hl 0 rfl) ?_
        refine gr_getR X G Y fk_RX6_15 clC_9 rfl (dck_at da_X6_pass 13 rfl) ?_
        refine lv_iload_n X.1 X.2.1 (dck_at da_X6_pass 14 rfl) rfl (lv_at hl 3 rfl) ?_
        obtain ⟨hin, h⟩ := gI_if h
        refine gr_lald X G Y clC_11 hin (dck_at da_X6_pass 15 rfl) ?_
        refine W.lcmp X.1 X.2.1 (dck_at da_X6_pass 16 rfl) ?_
        refine lv_if_le (tgt := 39) X.1 X.2.1 (dck_at da_X6_pass 17 rfl) rfl (fun c => ?_) (fun c => ?_)
        · have h := gI_pos h c
          exact b39 x3 s1 _ _ _ h Y (lv_sub hl [0, 1, 2, 3] rfl)
        · have h := gI_neg h c
          refine lv_aload_n X.1 X.2.1 (dck_at da_X6_pass 18 rfl) rfl (lv_at hl 0 rfl) ?_
          refine lv_aload_n X.1 X.2.1 (dck_at da_X6_pass 19 rfl) rfl (lv_at hl 1 rfl) ?_
          refine lv_aload_n X.1 X.2.1 (dck_at da_X6_pass 20 rfl) rfl (lv_at hl 2 rfl) ?_
          refine lv_iload_n X.1 X.2.1 (dck_at da_X6_pass 21 rfl) rfl (lv_at hl 3 rfl) ?_
          obtain ⟨s2, hc, h⟩ := gB_some h
          refine gr_backv Y (gr_runV (as := [.ref (ad 2), .ref (ad 6), .int x3]) (rest := []) X G Y (ok_c_Night_leave hc) cv_RX6_47 clC_9 ⟨Nat.le_of_ble_eq_true rfl, Nat.le_of_ble_eq_true rfl⟩ rfl hl.1 (Nat.le_of_ble_eq_true rfl) (dck_at da_X6_pass 22 rfl)) (fun H locs Y => ?_)
          exact b39 x3 s2 _ _ _ h Y (lv_sub hl [0, 1, 2, 3] rfl)
  unfold c_Night_pass at h
  refine lv_aload_n X.1 X.2.1 (dck_at da_X6_pass 0 rfl) rfl (lv_at hl 0 rfl) ?_
  refine gr_getR X G Y fk_RX6_18 clC_9 rfl (dck_at da_X6_pass 1 rfl) ?_
  refine lv_lconst (v := 0) X.1 X.2.1 (dck_at da_X6_pass 2 rfl) rfl ?_
  obtain ⟨s3, hc, h⟩ := gB_some h
  refine gr_backv Y (gr_runS (as := [.ref (ad 12), .long (0 : Int64)]) (rest := []) X G Y (ok_c_Arrays_fill_d0a16_v2 hc) cs_RX6_35 ⟨Nat.le_of_ble_eq_true rfl, Nat.le_of_ble_eq_true rfl⟩ rfl hl.1 (Nat.le_of_ble_eq_true rfl) (dck_at da_X6_pass 3 rfl)) (fun H locs Y => ?_)
  refine lv_iconst X.1 X.2.1 (dck_at da_X6_pass 4 rfl) ki_0 ?_
  refine lv_istore_n (lv' := [(3, .int (0 : Int32)), (0, .ref (ad 9)), (1, .ref (ad 2)), (2, .ref (ad 6))]) X.1 X.2.1 (dck_at da_X6_pass 5 rfl) rfl hl (by decide) rfl (fun ls hl => ?_)
  exact b10 F (0 : Int32) s3 _ _ _ h Y (lv_sub hl [1, 2, 3, 0] rfl)
set_option maxRecDepth 100000 in
set_option maxHeartbeats 4000000 in
theorem ok_c_Night_isOut {l : Launch} {D : va_G} {cy : Nat → ClassId} {ad sa : Nat → Nat} {A : Nat → Prop} {F : Nat}  {s0 : St} {ρ : Int32} {σ' : St} (h : c_Night_isOut F s0 = some (ρ, σ')) : gMi l shC D cy ad sa A yX6_isOut cX6_isOut 1 (some .boolean) 1 [.ref (ad 9)] s0 ρ σ' := by
  refine gM_of (by decide) (Nat.le_of_ble_eq_true rfl) ?_
  intro p e s m args below meth c ls X G Y hr hlk hl
  have hl : lv_has ls 1 [(0, .ref (ad 9))] := hl
  unfold c_Night_isOut at h
  refine lv_aload_n X.1 X.2.1 (dck_at da_X6_isOut 0 rfl) rfl (lv_at hl 0 rfl) ?_
  refine gr_getI X G Y fk_RX6_25 clC_9 rfl (dck_at da_X6_isOut 1 rfl) ?_
  refine lv_if_lt (tgt := 11) X.1 X.2.1 (dck_at da_X6_isOut 2 rfl) rfl (fun c => ?_) (fun c => ?_)
  · have h := gI_pos h c
    refine lv_iconst X.1 X.2.1 (dck_at da_X6_isOut 5 rfl) ki_0 ?_
    exact gr_iretO X Y h hr rfl hlk (dck_at da_X6_isOut 6 rfl)
  · have h := gI_neg h c
    refine lv_iconst X.1 X.2.1 (dck_at da_X6_isOut 3 rfl) ki_1 ?_
    refine lv_goto (tgt := 12) X.1 X.2.1 (dck_at da_X6_isOut 4 rfl) rfl ?_
    exact gr_iretO X Y h hr rfl hlk (dck_at da_X6_isOut 6 rfl)
set_option maxRecDepth 100000 in
set_option maxHeartbeats 4000000 in
theorem ok_c_night {l : Launch} {D : va_G} {cy : Nat → ClassId} {ad sa : Nat → Nat} {A : Nat → Prop} {F : Nat} {a1 : Int32} {s0 : St} {ρ : Int32} {σ' : St} (h : c_night F a1 s0 = some (ρ, σ')) : gMi l shC D cy ad sa A yX11_night cX11_night 3 (some .int) 5 [.ref (ad 0), .int a1] s0 ρ σ' := by
  refine gM_of (by decide) (Nat.le_of_ble_eq_true rfl) ?_
  intro p e s m args below meth c ls X G Y hr hlk hl
  have hl : lv_has ls 3 [(0, .ref (ad 0)), (1, .int a1)] := hl
  have b63 : ∀ n : Nat, ∀ (x1 : Int32) (x2 : Int32) (s0 : St) (H : Heap) (locs : List Loc) (ls : Array Slot), c_night_L63 F  n x1 x2 s0 = some (ρ, σ') → gY shC D cy ad A s0 s H locs → lv_has ls 3 [(0, .ref (ad 0)), (1, .int x1), (2, .int x2)] → W p l e (grm 5) s m args below meth c H locs 0 0 (MQ below (va_Qi (fun (q : Int32) (_ : Unit) => q = ρ) (fun _ t => va_P D vwCl (gWl shC cy ad σ') t.heap) A) args s 0 0 A) (F0 m 63 ls []) := by
    intro n
    induction n with
    | zero => intro x1 x2 s0 H locs ls h Y hl; exact (gnone h).elim
    | succ n hk63 =>
      have e : c_night_L63 F  (n + 1) = c_night_L63b F  (c_night_L63 F  n) := rfl
      rw [e]; clear e
      generalize c_night_L63 F  n = k63 at hk63 ⊢
      intro x1 x2 s0 H locs ls h Y hl
      unfold c_night_L63b at h
      refine lv_iload_n X.1 X.2.1 (dck_at da_X11_night 32 rfl) rfl (lv_at hl 2 rfl) ?_
      refine lv_iload_n X.1 X.2.1 (dck_at da_X11_night 33 rfl) rfl (lv_at hl 1 rfl) ?_
      refine lv_icmp_ge (tgt := 98) X.1 X.2.1 (dck_at da_X11_night 34 rfl) rfl (fun c => ?_) (fun c => ?_)
      · have h := gI_pos h c
        refine lv_aload_n X.1 X.2.1 (dck_at da_X11_night 47 rfl) rfl (lv_at hl 0 rfl) ?_
        refine gr_getR X G Y fk_RX11_12 clC_0 rfl (dck_at da_X11_night 48 rfl) ?_
        refine gr_getR X G Y fk_RX11_122 clC_1 rfl (dck_at da_X11_night 49 rfl) ?_
        refine gr_getI X G Y fk_RX11_136 clC_9 rfl (dck_at da_X11_night 50 rfl) ?_
        exact gr_iretO X Y h hr rfl hlk (dck_at da_X11_night 51 rfl)
      · have h := gI_neg h c
        refine lv_aload_n X.1 X.2.1 (dck_at da_X11_night 35 rfl) rfl (lv_at hl 0 rfl) ?_
        refine gr_getR X G Y fk_RX11_12 clC_0 rfl (dck_at da_X11_night 36 rfl) ?_
        refine gr_getR X G Y fk_RX11_122 clC_1 rfl (dck_at da_X11_night 37 rfl) ?_
        refine lv_aload_n X.1 X.2.1 (dck_at da_X11_night 38 rfl) rfl (lv_at hl 0 rfl) ?_
        refine gr_getR X G Y fk_RX11_12 clC_0 rfl (dck_at da_X11_night 39 rfl) ?_
        refine gr_getR X G Y fk_RX11_59 clC_1 rfl (dck_at da_X11_night 40 rfl) ?_
        refine lv_aload_n X.1 X.2.1 (dck_at da_X11_night 41 rfl) rfl (lv_at hl 0 rfl) ?_
        refine gr_getR X G Y fk_RX11_12 clC_0 rfl (dck_at da_X11_night 42 rfl) ?_
        refine gr_getR X G Y fk_RX11_83 clC_1 rfl (dck_at da_X11_night 43 rfl) ?_
        obtain ⟨s1, hc, h⟩ := gB_some h
        refine gr_backv Y (gr_runV (as := [.ref (ad 2), .ref (ad 6)]) (rest := []) X G Y (ok_c_Night_pass hc) cv_RX11_140 clC_9 ⟨Nat.le_of_ble_eq_true rfl, Nat.le_of_ble_eq_true rfl⟩ rfl hl.1 (Nat.le_of_ble_eq_true rfl) (dck_at da_X11_night 44 rfl)) (fun H locs Y => ?_)
        refine lv_iinc (v := x2 + (1 : Int32)) (lv' := [(2, .int (x2 + (1 : Int32))), (0, .ref (ad 0)), (1, .int x1)]) X.1 X.2.1 (dck_at da_X11_night 45 rfl) hl (k := 2) rfl (congrArg (HAdd.hAdd _) ki_1) (by decide) rfl (fun ls hl => ?_)
        refine lv_goto (tgt := 63) X.1 X.2.1 (dck_at da_X11_night 46 rfl) rfl ?_
        exact hk63 x1 (x2 + (1 : Int32)) s1 _ _ _ h Y (lv_sub hl [1, 2, 0] rfl)
  unfold c_night at h
  refine lv_iload_n X.1 X.2.1 (dck_at da_X11_night 0 rfl) rfl (lv_at hl 1 rfl) ?_
  refine lv_iconst X.1 X.2.1 (dck_at da_X11_night 1 rfl) ki_1 ?_
  refine lv_bipush X.1 X.2.1 (dck_at da_X11_night 2 rfl) kb_60 ?_
  obtain ⟨r2, s2, hc, h⟩ := gB2_some h
  refine gr_backi Y (gr_runS (as := [.int a1, .int (1 : Int32), .int (60 : Int32)]) (rest := []) X G Y (ok_c_isIn hc) cs_RX11_68 ⟨Nat.le_of_ble_eq_true rfl, Nat.le_of_ble_eq_true rfl⟩ rfl hl.1 (Nat.le_of_ble_eq_true rfl) (dck_at da_X11_night 3 rfl)) (fun H locs Y => ?_)
  refine lv_if_ne (tgt := 16) X.1 X.2.1 (dck_at da_X11_night 4 rfl) rfl (fun c => ?_) (fun c => ?_)
  · have h := gI_neg h c
    refine lv_aload_n X.1 X.2.1 (dck_at da_X11_night 9 rfl) rfl (lv_at hl 0 rfl) ?_
    refine gr_getR X G Y fk_RX11_12 clC_0 rfl (dck_at da_X11_night 10 rfl) ?_
    refine gr_getR X G Y fk_RX11_122 clC_1 rfl (dck_at da_X11_night 11 rfl) ?_
    obtain ⟨r3, s3, hc, h⟩ := gB2_some h
    refine gr_backi Y (gr_runV (as := []) (rest := []) X G Y (ok_c_Night_isOut hc) cv_RX11_132 clC_9 ⟨Nat.le_of_ble_eq_true rfl, Nat.le_of_ble_eq_true rfl⟩ rfl hl.1 (Nat.le_of_ble_eq_true rfl) (dck_at da_X11_night 12 rfl)) (fun H locs Y => ?_)
    refine lv_if_ne (tgt := 36) X.1 X.2.1 (dck_at da_X11_night 13 rfl) rfl (fun c => ?_) (fun c => ?_)
    · have h := gI_neg h c
      refine lv_aload_n X.1 X.2.1 (dck_at da_X11_night 18 rfl) rfl (lv_at hl 0 rfl) ?_
      refine gr_getR X G Y fk_RX11_12 clC_0 rfl (dck_at da_X11_night 19 rfl) ?_
      refine gr_getR X G Y fk_RX11_122 clC_1 rfl (dck_at da_X11_night 20 rfl) ?_
      refine gr_getI X G Y fk_RX11_136 clC_9 rfl (dck_at da_X11_night 21 rfl) ?_
      refine lv_iload_n X.1 X.2.1 (dck_at da_X11_night 22 rfl) rfl (lv_at hl 1 rfl) ?_
      refine lv_iadd X.1 X.2.1 (dck_at da_X11_night 23 rfl) ?_
      refine lv_sipush X.1 X.2.1 (dck_at da_X11_night 24 rfl) ks_999 ?_
      refine lv_icmp_le (tgt := 61) X.1 X.2.1 (dck_at da_X11_night 25 rfl) rfl (fun c => ?_) (fun c => ?_)
      · have h := gI_pos h c
        refine lv_iconst X.1 X.2.1 (dck_at da_X11_night 30 rfl) ki_0 ?_
        refine lv_istore_n (lv' := [(2, .int (0 : Int32)), (0, .ref (ad 0)), (1, .int a1)]) X.1 X.2.1 (dck_at da_X11_night 31 rfl) rfl hl (by decide) rfl (fun ls hl => ?_)
        exact b63 F a1 (0 : Int32) s3 _ _ _ h Y (lv_sub hl [1, 2, 0] rfl)
      · have h := gI_neg h c
        refine lv_aload_n X.1 X.2.1 (dck_at da_X11_night 26 rfl) rfl (lv_at hl 0 rfl) ?_
        refine lv_bipush X.1 X.2.1 (dck_at da_X11_night 27 rfl) kb_m3 ?_
        obtain ⟨r4, s4, hc, h⟩ := gB2_some h
        refine gr_backi Y (gr_runV (as := [.int (-3 : Int32)]) (rest := []) X G Y (ok_c_refuse hc) cv_RX11_55 clC_0 ⟨Nat.le_of_ble_eq_true rfl, Nat.le_of_ble_eq_true rfl⟩ rfl hl.1 (Nat.le_of_ble_eq_true rfl) (dck_at da_X11_night 28 rfl)) (fun H locs Y => ?_)
        exact gr_iretO X Y h hr rfl hlk (dck_at da_X11_night 29 rfl)
    · have h := gI_pos h c
      refine lv_aload_n X.1 X.2.1 (dck_at da_X11_night 14 rfl) rfl (lv_at hl 0 rfl) ?_
      refine lv_bipush X.1 X.2.1 (dck_at da_X11_night 15 rfl) kb_m2 ?_
      obtain ⟨r5, s5, hc, h⟩ := gB2_some h
      refine gr_backi Y (gr_runV (as := [.int (-2 : Int32)]) (rest := []) X G Y (ok_c_refuse hc) cv_RX11_55 clC_0 ⟨Nat.le_of_ble_eq_true rfl, Nat.le_of_ble_eq_true rfl⟩ rfl hl.1 (Nat.le_of_ble_eq_true rfl) (dck_at da_X11_night 16 rfl)) (fun H locs Y => ?_)
      exact gr_iretO X Y h hr rfl hlk (dck_at da_X11_night 17 rfl)
  · have h := gI_pos h c
    refine lv_aload_n X.1 X.2.1 (dck_at da_X11_night 5 rfl) rfl (lv_at hl 0 rfl) ?_
    refine lv_iconst X.1 X.2.1 (dck_at da_X11_night 6 rfl) ki_m1 ?_
    obtain ⟨r6, s6, hc, h⟩ := gB2_some h
    refine gr_backi Y (gr_runV (as := [.int (-1 : Int32)]) (rest := []) X G Y (ok_c_refuse hc) cv_RX11_55 clC_0 ⟨Nat.le_of_ble_eq_true rfl, Nat.le_of_ble_eq_true rfl⟩ rfl hl.1 (Nat.le_of_ble_eq_true rfl) (dck_at da_X11_night 7 rfl)) (fun H locs Y => ?_)
    exact gr_iretO X Y h hr rfl hlk (dck_at da_X11_night 8 rfl)
set_option maxRecDepth 100000 in
set_option maxHeartbeats 4000000 in
theorem ok_c_parts {l : Launch} {D : va_G} {cy : Nat → ClassId} {ad sa : Nat → Nat} {A : Nat → Prop} {F : Nat} {a1 : Int32} {a2 : Int32} {s0 : St} {ρ : Int64} {σ' : St} (h : c_parts F a1 a2 s0 = some (ρ, σ')) : gMl l shC D cy ad sa A yX11_parts cX11_parts 3 (some .long) 3 [.ref (ad 0), .int a1, .int a2] s0 ρ σ' := by
  refine gM_of (by decide) (Nat.le_of_ble_eq_true rfl) ?_
  intro p e s m args below meth c ls X G Y hr hlk hl
  have hl : lv_has ls 3 [(0, .ref (ad 0)), (1, .int a1), (2, .int a2)] := hl
  unfold c_parts at h
  refine lv_iload_n X.1 X.2.1 (dck_at da_X11_parts 0 rfl) rfl (lv_at hl 1 rfl) ?_
  obtain ⟨r1, s1, hc, h⟩ := gB2_some h
  refine gr_backi Y (gr_runS (as := [.int a1]) (rest := []) X G Y (ok_c_isCell hc) cs_RX11_48 ⟨Nat.le_of_ble_eq_true rfl, Nat.le_of_ble_eq_true rfl⟩ rfl hl.1 (Nat.le_of_ble_eq_true rfl) (dck_at da_X11_parts 1 rfl)) (fun H locs Y => ?_)
  refine lv_if_ne (tgt := 14) X.1 X.2.1 (dck_at da_X11_parts 2 rfl) rfl (fun c => ?_) (fun c => ?_)
  · have h := gI_neg h c
    refine lv_iload_n X.1 X.2.1 (dck_at da_X11_parts 8 rfl) rfl (lv_at hl 2 rfl) ?_
    by_cases c0 : a2 = (0 : Int32)
    · have h := gI_pos h c0
      refine lv_tableIn (tgt := 52) (off := 37) X.1 X.2.1 (dck_at da_X11_parts 9 rfl) (by rw [c0]; decide) (by rw [c0]; decide) (by rw [c0]; rfl) rfl ?_
      refine lv_aload_n X.1 X.2.1 (dck_at da_X11_parts 10 rfl) rfl (lv_at hl 0 rfl) ?_
      refine gr_getR X G Y fk_RX11_12 clC_0 rfl (dck_at da_X11_parts 11 rfl) ?_
      refine gr_getR X G Y fk_RX11_122 clC_1 rfl (dck_at da_X11_parts 12 rfl) ?_
      refine gr_getR X G Y fk_RX11_144 clC_9 rfl (dck_at da_X11_parts 13 rfl) ?_
      refine lv_iload_n X.1 X.2.1 (dck_at da_X11_parts 14 rfl) rfl (lv_at hl 1 rfl) ?_
      refine lv_iconst X.1 X.2.1 (dck_at da_X11_parts 15 rfl) ki_4 ?_
      refine lv_imul X.1 X.2.1 (dck_at da_X11_parts 16 rfl) ?_
      refine lv_iload_n X.1 X.2.1 (dck_at da_X11_parts 17 rfl) rfl (lv_at hl 2 rfl) ?_
      refine lv_iadd X.1 X.2.1 (dck_at da_X11_parts 18 rfl) ?_
      obtain ⟨hin, h⟩ := gI_if h
      refine gr_lald X G Y clC_10 hin (dck_at da_X11_parts 19 rfl) ?_
      exact gr_lretO X Y h hr hlk (dck_at da_X11_parts 20 rfl)
    have h := gI_neg h c0
    by_cases c1 : a2 = (1 : Int32)
    · have h := gI_pos h c1
      refine lv_tableIn (tgt := 52) (off := 37) X.1 X.2.1 (dck_at da_X11_parts 9 rfl) (by rw [c1]; decide) (by rw [c1]; decide) (by rw [c1]; rfl) rfl ?_
      refine lv_aload_n X.1 X.2.1 (dck_at da_X11_parts 10 rfl) rfl (lv_at hl 0 rfl) ?_
      refine gr_getR X G Y fk_RX11_12 clC_0 rfl (dck_at da_X11_parts 11 rfl) ?_
      refine gr_getR X G Y fk_RX11_122 clC_1 rfl (dck_at da_X11_parts 12 rfl) ?_
      refine gr_getR X G Y fk_RX11_144 clC_9 rfl (dck_at da_X11_parts 13 rfl) ?_
      refine lv_iload_n X.1 X.2.1 (dck_at da_X11_parts 14 rfl) rfl (lv_at hl 1 rfl) ?_
      refine lv_iconst X.1 X.2.1 (dck_at da_X11_parts 15 rfl) ki_4 ?_
      refine lv_imul X.1 X.2.1 (dck_at da_X11_parts 16 rfl) ?_
      refine lv_iload_n X.1 X.2.1 (dck_at da_X11_parts 17 rfl) rfl (lv_at hl 2 rfl) ?_
      refine lv_iadd X.1 X.2.1 (dck_at da_X11_parts 18 rfl) ?_
      obtain ⟨hin, h⟩ := gI_if h
      refine gr_lald X G Y clC_10 hin (dck_at da_X11_parts 19 rfl) ?_
      exact gr_lretO X Y h hr hlk (dck_at da_X11_parts 20 rfl)
    have h := gI_neg h c1
    by_cases c2 : a2 = (2 : Int32)
    · have h := gI_pos h c2
      refine lv_tableIn (tgt := 52) (off := 37) X.1 X.2.1 (dck_at da_X11_parts 9 rfl) (by rw [c2]; decide) (by rw [c2]; decide) (by rw [c2]; rfl) rfl ?_
      refine lv_aload_n X.1 X.2.1 (dck_at da_X11_parts 10 rfl) rfl (lv_at hl 0 rfl) ?_
      refine gr_getR X G Y fk_RX11_12 clC_0 rfl (dck_at da_X11_parts 11 rfl) ?_
      refine gr_getR X G Y fk_RX11_122 clC_1 rfl (dck_at da_X11_parts 12 rfl) ?_
      refine gr_getR X G Y fk_RX11_144 clC_9 rfl (dck_at da_X11_parts 13 rfl) ?_
      refine lv_iload_n X.1 X.2.1 (dck_at da_X11_parts 14 rfl) rfl (lv_at hl 1 rfl) ?_
      refine lv_iconst X.1 X.2.1 (dck_at da_X11_parts 15 rfl) ki_4 ?_
      refine lv_imul X.1 X.2.1 (dck_at da_X11_parts 16 rfl) ?_
      refine lv_iload_n X.1 X.2.1 (dck_at da_X11_parts 17 rfl) rfl (lv_at hl 2 rfl) ?_
      refine lv_iadd X.1 X.2.1 (dck_at da_X11_parts 18 rfl) ?_
      obtain ⟨hin, h⟩ := gI_if h
      refine gr_lald X G Y clC_10 hin (dck_at da_X11_parts 19 rfl) ?_
      exact gr_lretO X Y h hr hlk (dck_at da_X11_parts 20 rfl)
    have h := gI_neg h c2
    by_cases c3 : a2 = (3 : Int32)
    · have h := gI_pos h c3
      refine lv_tableIn (tgt := 52) (off := 37) X.1 X.2.1 (dck_at da_X11_parts 9 rfl) (by rw [c3]; decide) (by rw [c3]; decide) (by rw [c3]; rfl) rfl ?_
      refine lv_aload_n X.1 X.2.1 (dck_at da_X11_parts 10 rfl) rfl (lv_at hl 0 rfl) ?_
      refine gr_getR X G Y fk_RX11_12 clC_0 rfl (dck_at da_X11_parts 11 rfl) ?_
      refine gr_getR X G Y fk_RX11_122 clC_1 rfl (dck_at da_X11_parts 12 rfl) ?_
      refine gr_getR X G Y fk_RX11_144 clC_9 rfl (dck_at da_X11_parts 13 rfl) ?_
      refine lv_iload_n X.1 X.2.1 (dck_at da_X11_parts 14 rfl) rfl (lv_at hl 1 rfl) ?_
      refine lv_iconst X.1 X.2.1 (dck_at da_X11_parts 15 rfl) ki_4 ?_
      refine lv_imul X.1 X.2.1 (dck_at da_X11_parts 16 rfl) ?_
      refine lv_iload_n X.1 X.2.1 (dck_at da_X11_parts 17 rfl) rfl (lv_at hl 2 rfl) ?_
      refine lv_iadd X.1 X.2.1 (dck_at da_X11_parts 18 rfl) ?_
      obtain ⟨hin, h⟩ := gI_if h
      refine gr_lald X G Y clC_10 hin (dck_at da_X11_parts 19 rfl) ?_
      exact gr_lretO X Y h hr hlk (dck_at da_X11_parts 20 rfl)
    have h := gI_neg h c3
    by_cases c4 : a2 = (4 : Int32)
    · have h := gI_pos h c4
      refine lv_tableIn (tgt := 69) (off := 54) X.1 X.2.1 (dck_at da_X11_parts 9 rfl) (by rw [c4]; decide) (by rw [c4]; decide) (by rw [c4]; rfl) rfl ?_
      refine lv_aload_n X.1 X.2.1 (dck_at da_X11_parts 21 rfl) rfl (lv_at hl 0 rfl) ?_
      refine gr_getR X G Y fk_RX11_12 clC_0 rfl (dck_at da_X11_parts 22 rfl) ?_
      refine gr_getR X G Y fk_RX11_122 clC_1 rfl (dck_at da_X11_parts 23 rfl) ?_
      refine gr_getR X G Y fk_RX11_148 clC_9 rfl (dck_at da_X11_parts 24 rfl) ?_
      refine lv_iload_n X.1 X.2.1 (dck_at da_X11_parts 25 rfl) rfl (lv_at hl 1 rfl) ?_
      obtain ⟨hin, h⟩ := gI_if h
      refine gr_lald X G Y clC_11 hin (dck_at da_X11_parts 26 rfl) ?_
      exact gr_lretO X Y h hr hlk (dck_at da_X11_parts 27 rfl)
    have h := gI_neg h c4
    by_cases c5 : a2 = (5 : Int32)
    · have h := gI_pos h c5
      refine lv_tableIn (tgt := 82) (off := 67) X.1 X.2.1 (dck_at da_X11_parts 9 rfl) (by rw [c5]; decide) (by rw [c5]; decide) (by rw [c5]; rfl) rfl ?_
      refine lv_aload_n X.1 X.2.1 (dck_at da_X11_parts 28 rfl) rfl (lv_at hl 0 rfl) ?_
      refine gr_getR X G Y fk_RX11_12 clC_0 rfl (dck_at da_X11_parts 29 rfl) ?_
      refine gr_getR X G Y fk_RX11_122 clC_1 rfl (dck_at da_X11_parts 30 rfl) ?_
      refine lv_iload_n X.1 X.2.1 (dck_at da_X11_parts 31 rfl) rfl (lv_at hl 1 rfl) ?_
      obtain ⟨r2, s2, hc, h⟩ := gB2_some h
      refine gr_backl Y (gr_runV (as := [.int a1]) (rest := []) X G Y (ok_c_Night_together hc) cv_RX11_151 clC_9 ⟨Nat.le_of_ble_eq_true rfl, Nat.le_of_ble_eq_true rfl⟩ rfl hl.1 (Nat.le_of_ble_eq_true rfl) (dck_at da_X11_parts 32 rfl)) (fun H locs Y => ?_)
      exact gr_lretO X Y h hr hlk (dck_at da_X11_parts 33 rfl)
    have h := gI_neg h c5
    refine lv_tableOut (tgt := 94) X.1 X.2.1 (dck_at da_X11_parts 9 rfl) (by have t0 := lv_neT (a := 0) c0 rfl; have t1 := lv_neT (a := 1) c1 rfl; have t2 := lv_neT (a := 2) c2 rfl; have t3 := lv_neT (a := 3) c3 rfl; have t4 := lv_neT (a := 4) c4 rfl; have t5 := lv_neT (a := 5) c5 rfl; omega) rfl ?_
    refine lv_aload_n X.1 X.2.1 (dck_at da_X11_parts 34 rfl) rfl (lv_at hl 0 rfl) ?_
    refine lv_iconst X.1 X.2.1 (dck_at da_X11_parts 35 rfl) ki_m1 ?_
    obtain ⟨r3, s3, hc, h⟩ := gB2_some h
    refine gr_backi Y (gr_runV (as := [.int (-1 : Int32)]) (rest := []) X G Y (ok_c_refuse hc) cv_RX11_55 clC_0 ⟨Nat.le_of_ble_eq_true rfl, Nat.le_of_ble_eq_true rfl⟩ rfl hl.1 (Nat.le_of_ble_eq_true rfl) (dck_at da_X11_parts 36 rfl)) (fun H locs Y => ?_)
    refine lv_i2l (v := (r3).toInt64) X.1 X.2.1 (dck_at da_X11_parts 37 rfl) rfl ?_
    exact gr_lretO X Y h hr hlk (dck_at da_X11_parts 38 rfl)
  · have h := gI_pos h c
    refine lv_aload_n X.1 X.2.1 (dck_at da_X11_parts 3 rfl) rfl (lv_at hl 0 rfl) ?_
    refine lv_iconst X.1 X.2.1 (dck_at da_X11_parts 4 rfl) ki_m1 ?_
    obtain ⟨r4, s4, hc, h⟩ := gB2_some h
    refine gr_backi Y (gr_runV (as := [.int (-1 : Int32)]) (rest := []) X G Y (ok_c_refuse hc) cv_RX11_55 clC_0 ⟨Nat.le_of_ble_eq_true rfl, Nat.le_of_ble_eq_true rfl⟩ rfl hl.1 (Nat.le_of_ble_eq_true rfl) (dck_at da_X11_parts 5 rfl)) (fun H locs Y => ?_)
    refine lv_i2l (v := (r4).toInt64) X.1 X.2.1 (dck_at da_X11_parts 6 rfl) rfl ?_
    exact gr_lretO X Y h hr hlk (dck_at da_X11_parts 7 rfl)
set_option maxRecDepth 100000 in
set_option maxHeartbeats 4000000 in
theorem ok_c_isPart {l : Launch} {D : va_G} {cy : Nat → ClassId} {ad sa : Nat → Nat} {A : Nat → Prop} {F : Nat} {a0 : Int32} {s0 : St} {ρ : Int32} {σ' : St} (h : c_isPart F a0 s0 = some (ρ, σ')) : gMi l shC D cy ad sa A yX11_isPart cX11_isPart 1 (some .boolean) 2 [.int a0] s0 ρ σ' := by
  refine gM_of (by decide) (Nat.le_of_ble_eq_true rfl) ?_
  intro p e s m args below meth c ls X G Y hr hlk hl
  have hl : lv_has ls 1 [(0, .int a0)] := hl
  unfold c_isPart at h
  refine lv_iload_n X.1 X.2.1 (dck_at da_X11_isPart 0 rfl) rfl (lv_at hl 0 rfl) ?_
  refine lv_iconst X.1 X.2.1 (dck_at da_X11_isPart 1 rfl) ki_0 ?_
  refine lv_iconst X.1 X.2.1 (dck_at da_X11_isPart 2 rfl) ki_1 ?_
  obtain ⟨r1, s1, hc, h⟩ := gB2_some h
  refine gr_backi Y (gr_runS (as := [.int a0, .int (0 : Int32), .int (1 : Int32)]) (rest := []) X G Y (ok_c_isIn hc) cs_RX11_68 ⟨Nat.le_of_ble_eq_true rfl, Nat.le_of_ble_eq_true rfl⟩ rfl hl.1 (Nat.le_of_ble_eq_true rfl) (dck_at da_X11_isPart 3 rfl)) (fun H locs Y => ?_)
  obtain ⟨hz, h⟩ := gI_if h
  exact gr_iretO X Y h hr (gz_nar hz) hlk (dck_at da_X11_isPart 4 rfl)
set_option maxRecDepth 100000 in
set_option maxHeartbeats 4000000 in
theorem ok_c_Night_all {l : Launch} {D : va_G} {cy : Nat → ClassId} {ad sa : Nat → Nat} {A : Nat → Prop} {F : Nat}  {s0 : St} {ρ : Int64} {σ' : St} (h : c_Night_all F s0 = some (ρ, σ')) : gMl l shC D cy ad sa A yX6_all cX6_all 4 (some .long) 2 [.ref (ad 9)] s0 ρ σ' := by
  refine gM_of (by decide) (Nat.le_of_ble_eq_true rfl) ?_
  intro p e s m args below meth c ls X G Y hr hlk hl
  have hl : lv_has ls 4 [(0, .ref (ad 9))] := hl
  have b4 : ∀ n : Nat, ∀ (x1 : Int64) (x3 : Int32) (s0 : St) (H : Heap) (locs : List Loc) (ls : Array Slot), c_Night_all_L4 F  n x1 x3 s0 = some (ρ, σ') → gY shC D cy ad A s0 s H locs → lv_has ls 4 [(0, .ref (ad 9)), (1, .long x1), (3, .int x3)] → W p l e (grm 2) s m args below meth c H locs 0 0 (MQ below (va_Ql (fun (q : Int64) (_ : Unit) => q = ρ) (fun _ t => va_P D vwCl (gWl shC cy ad σ') t.heap) A) args s 0 0 A) (F0 m 4 ls []) := by
    intro n
    induction n with
    | zero => intro x1 x3 s0 H locs ls h Y hl; exact (gnone h).elim
    | succ n hk4 =>
      have e : c_Night_all_L4 F  (n + 1) = c_Night_all_L4b F  (c_Night_all_L4 F  n) := rfl
      rw [e]; clear e
      generalize c_Night_all_L4 F  n = k4 at hk4 ⊢
      intro x1 x3 s0 H locs ls h Y hl
      unfold c_Night_all_L4b at h
      refine lv_iload_n X.1 X.2.1 (dck_at da_X6_all 4 rfl) rfl (lv_at hl 2 rfl) ?_
      refine lv_sipush X.1 X.2.1 (dck_at da_X6_all 5 rfl) ks_144 ?_
      refine lv_icmp_ge (tgt := 25) X.1 X.2.1 (dck_at da_X6_all 6 rfl) rfl (fun c => ?_) (fun c => ?_)
      · have h := gI_pos h c
        refine lv_lload_n X.1 X.2.1 (dck_at da_X6_all 15 rfl) rfl (lv_at hl 1 rfl) ?_
        exact gr_lretO X Y h hr hlk (dck_at da_X6_all 16 rfl)
      · have h := gI_neg h c
        refine lv_lload_n X.1 X.2.1 (dck_at da_X6_all 7 rfl) rfl (lv_at hl 1 rfl) ?_
        refine lv_aload_n X.1 X.2.1 (dck_at da_X6_all 8 rfl) rfl (lv_at hl 0 rfl) ?_
        refine lv_iload_n X.1 X.2.1 (dck_at da_X6_all 9 rfl) rfl (lv_at hl 2 rfl) ?_
        obtain ⟨r1, s1, hc, h⟩ := gB2_some h
        refine gr_backl Y (gr_runV (as := [.int x3]) (rest := [.long x1]) X G Y (ok_c_Night_together hc) cv_RX6_43 clC_9 ⟨Nat.le_of_ble_eq_true rfl, Nat.le_of_ble_eq_true rfl⟩ rfl hl.1 (Nat.le_of_ble_eq_true rfl) (dck_at da_X6_all 10 rfl)) (fun H locs Y => ?_)
        refine lv_ladd X.1 X.2.1 (dck_at da_X6_all 11 rfl) ?_
        refine lv_lstore_n (lv' := [(1, .long (x1 + r1)), (0, .ref (ad 9)), (3, .int x3)]) X.1 X.2.1 (dck_at da_X6_all 12 rfl) rfl hl (by decide) rfl (fun ls hl => ?_)
        refine lv_iinc (v := x3 + (1 : Int32)) (lv' := [(3, .int (x3 + (1 : Int32))), (1, .long (x1 + r1)), (0, .ref (ad 9))]) X.1 X.2.1 (dck_at da_X6_all 13 rfl) hl (k := 2) rfl (congrArg (HAdd.hAdd _) ki_1) (by decide) rfl (fun ls hl => ?_)
        refine lv_goto (tgt := 4) X.1 X.2.1 (dck_at da_X6_all 14 rfl) rfl ?_
        exact hk4 (x1 + r1) (x3 + (1 : Int32)) s1 _ _ _ h Y (lv_sub hl [2, 1, 0] rfl)
  unfold c_Night_all at h
  refine lv_lconst (v := 0) X.1 X.2.1 (dck_at da_X6_all 0 rfl) rfl ?_
  refine lv_lstore_n (lv' := [(1, .long (0 : Int64)), (0, .ref (ad 9))]) X.1 X.2.1 (dck_at da_X6_all 1 rfl) rfl hl (by decide) rfl (fun ls hl => ?_)
  refine lv_iconst X.1 X.2.1 (dck_at da_X6_all 2 rfl) ki_0 ?_
  refine lv_istore_n (lv' := [(3, .int (0 : Int32)), (1, .long (0 : Int64)), (0, .ref (ad 9))]) X.1 X.2.1 (dck_at da_X6_all 3 rfl) rfl hl (by decide) rfl (fun ls hl => ?_)
  exact b4 F (0 : Int64) (0 : Int32) s0 _ _ _ h Y (lv_sub hl [2, 1, 0] rfl)
set_option maxRecDepth 100000 in
set_option maxHeartbeats 4000000 in
theorem ok_c_commonDivisor {l : Launch} {D : va_G} {cy : Nat → ClassId} {ad sa : Nat → Nat} {A : Nat → Prop} {F : Nat} {a0 : Int64} {a2 : Int64} {s0 : St} {ρ : Int64} {σ' : St} (h : c_commonDivisor F a0 a2 s0 = some (ρ, σ')) : gMl l shC D cy ad sa A yX11_commonDivisor cX11_commonDivisor 7 (some .long) 1 [.long a0, .long a2] s0 ρ σ' := by
  refine gM_of (by decide) (Nat.le_of_ble_eq_true rfl) ?_
  intro p e s m args below meth c ls X G Y hr hlk hl
  have hl : lv_has ls 7 [(0, .long a0), (2, .long a2)] := hl
  have b3 : ∀ n : Nat, ∀ (x0 : Int64) (x2 : Int64) (x4 : Int32) (s0 : St) (H : Heap) (locs : List Loc) (ls : Array Slot), c_commonDivisor_L3 F  n x0 x2 x4 s0 = some (ρ, σ') → gY shC D cy ad A s0 s H locs → lv_has ls 7 [(0, .long x0), (2, .long x2), (4, .int x4)] → W p l e (grm 1) s m args below meth c H locs 0 0 (MQ below (va_Ql (fun (q : Int64) (_ : Unit) => q = ρ) (fun _ t => va_P D vwCl (gWl shC cy ad σ') t.heap) A) args s 0 0 A) (F0 m 3 ls []) := by
    intro n
    induction n with
    | zero => intro x0 x2 x4 s0 H locs ls h Y hl; exact (gnone h).elim
    | succ n hk3 =>
      have e : c_commonDivisor_L3 F  (n + 1) = c_commonDivisor_L3b F  (c_commonDivisor_L3 F  n) := rfl
      rw [e]; clear e
      generalize c_commonDivisor_L3 F  n = k3 at hk3 ⊢
      intro x0 x2 x4 s0 H locs ls h Y hl
      unfold c_commonDivisor_L3b at h
      refine lv_iload X.1 X.2.1 (dck_at da_X11_commonDivisor 2 rfl) (lv_at hl 2 rfl) ?_
      refine lv_sipush X.1 X.2.1 (dck_at da_X11_commonDivisor 3 rfl) ks_1000 ?_
      refine lv_icmp_ge (tgt := 33) X.1 X.2.1 (dck_at da_X11_commonDivisor 4 rfl) rfl (fun c => ?_) (fun c => ?_)
      · have h := gI_pos h c
        refine lv_lload_n X.1 X.2.1 (dck_at da_X11_commonDivisor 19 rfl) rfl (lv_at hl 0 rfl) ?_
        exact gr_lretO X Y h hr hlk (dck_at da_X11_commonDivisor 20 rfl)
      · have h := gI_neg h c
        refine lv_lload_n X.1 X.2.1 (dck_at da_X11_commonDivisor 5 rfl) rfl (lv_at hl 1 rfl) ?_
        refine lv_lconst (v := 0) X.1 X.2.1 (dck_at da_X11_commonDivisor 6 rfl) rfl ?_
        refine W.lcmp X.1 X.2.1 (dck_at da_X11_commonDivisor 7 rfl) ?_
        refine lv_if_eq (tgt := 33) X.1 X.2.1 (dck_at da_X11_commonDivisor 8 rfl) rfl (fun c => ?_) (fun c => ?_)
        · have h := gI_pos h c
          refine lv_lload_n X.1 X.2.1 (dck_at da_X11_commonDivisor 19 rfl) rfl (lv_at hl 0 rfl) ?_
          exact gr_lretO X Y h hr hlk (dck_at da_X11_commonDivisor 20 rfl)
        · have h := gI_neg h c
          refine lv_lload_n X.1 X.2.1 (dck_at da_X11_commonDivisor 9 rfl) rfl (lv_at hl 0 rfl) ?_
          refine lv_lload_n X.1 X.2.1 (dck_at da_X11_commonDivisor 10 rfl) rfl (lv_at hl 1 rfl) ?_
          obtain ⟨hz, h⟩ := gI_nz h
          refine lv_lrem X.1 X.2.1 (dck_at da_X11_commonDivisor 11 rfl) hz ?_
          refine lv_lstore (lv' := [(5, .long (x0 - x0 / x2 * x2)), (0, .long x0), (2, .long x2), (4, .int x4)]) X.1 X.2.1 (dck_at da_X11_commonDivisor 12 rfl) hl (by decide) rfl (fun ls hl => ?_)
          refine lv_lload_n X.1 X.2.1 (dck_at da_X11_commonDivisor 13 rfl) rfl (lv_at hl 2 rfl) ?_
          refine lv_lstore_n (lv' := [(0, .long x2), (5, .long (x0 - x0 / x2 * x2)), (2, .long x2), (4, .int x4)]) X.1 X.2.1 (dck_at da_X11_commonDivisor 14 rfl) rfl hl (by decide) rfl (fun ls hl => ?_)
          refine lv_lload X.1 X.2.1 (dck_at da_X11_commonDivisor 15 rfl) (lv_at hl 1 rfl) ?_
          refine lv_lstore_n (lv' := [(2, .long (x0 - x0 / x2 * x2)), (0, .long x2), (5, .long (x0 - x0 / x2 * x2)), (4, .int x4)]) X.1 X.2.1 (dck_at da_X11_commonDivisor 16 rfl) rfl hl (by decide) rfl (fun ls hl => ?_)
          refine lv_iinc (v := x4 + (1 : Int32)) (lv' := [(4, .int (x4 + (1 : Int32))), (2, .long (x0 - x0 / x2 * x2)), (0, .long x2), (5, .long (x0 - x0 / x2 * x2))]) X.1 X.2.1 (dck_at da_X11_commonDivisor 17 rfl) hl (k := 3) rfl (congrArg (HAdd.hAdd _) ki_1) (by decide) rfl (fun ls hl => ?_)
          refine lv_goto (tgt := 3) X.1 X.2.1 (dck_at da_X11_commonDivisor 18 rfl) rfl ?_
          exact hk3 x2 (x0 - x0 / x2 * x2) (x4 + (1 : Int32)) s0 _ _ _ h Y (lv_sub hl [2, 1, 0] rfl)
  unfold c_commonDivisor at h
  refine lv_iconst X.1 X.2.1 (dck_at da_X11_commonDivisor 0 rfl) ki_0 ?_
  refine lv_istore (lv' := [(4, .int (0 : Int32)), (0, .long a0), (2, .long a2)]) X.1 X.2.1 (dck_at da_X11_commonDivisor 1 rfl) hl (by decide) rfl (fun ls hl => ?_)
  exact b3 F a0 a2 (0 : Int32) s0 _ _ _ h Y (lv_sub hl [1, 2, 0] rfl)
set_option maxRecDepth 100000 in
set_option maxHeartbeats 4000000 in
theorem ok_c_lowest {l : Launch} {D : va_G} {cy : Nat → ClassId} {ad sa : Nat → Nat} {A : Nat → Prop} {F : Nat} {a0 : Int64} {a2 : Int64} {a4 : Int32} {s0 : St} {ρ : Int64} {σ' : St} (h : c_lowest F a0 a2 a4 s0 = some (ρ, σ')) : gMl l shC D cy ad sa A yX11_lowest cX11_lowest 7 (some .long) 2 [.long a0, .long a2, .int a4] s0 ρ σ' := by
  refine gM_of (by decide) (Nat.le_of_ble_eq_true rfl) ?_
  intro p e s m args below meth c ls X G Y hr hlk hl
  have hl : lv_has ls 7 [(0, .long a0), (2, .long a2), (4, .int a4)] := hl
  have b26 : ∀ (x5 : Int64) (y0 : Int64) (s0 : St) (H : Heap) (locs : List Loc) (ls : Array Slot), c_lowest_J26 F  x5 y0 s0 = some (ρ, σ') → gY shC D cy ad A s0 s H locs → lv_has ls 7 [(5, .long x5)] → W p l e (grm 2) s m args below meth c H locs 0 0 (MQ below (va_Ql (fun (q : Int64) (_ : Unit) => q = ρ) (fun _ t => va_P D vwCl (gWl shC cy ad σ') t.heap) A) args s 0 0 A) (F0 m 26 ls [.long y0]) := by
    intro x5 y0 s0 H locs ls h Y hl
    unfold c_lowest_J26 at h
    refine lv_lload X.1 X.2.1 (dck_at da_X11_lowest 15 rfl) (lv_at hl 0 rfl) ?_
    obtain ⟨hz, h⟩ := gI_nz h
    refine lv_ldiv X.1 X.2.1 (dck_at da_X11_lowest 16 rfl) hz ?_
    exact gr_lretO X Y h hr hlk (dck_at da_X11_lowest 17 rfl)
  unfold c_lowest at h
  refine lv_lload_n X.1 X.2.1 (dck_at da_X11_lowest 0 rfl) rfl (lv_at hl 0 rfl) ?_
  refine lv_lload_n X.1 X.2.1 (dck_at da_X11_lowest 1 rfl) rfl (lv_at hl 1 rfl) ?_
  obtain ⟨r1, s1, hc, h⟩ := gB2_some h
  refine gr_backl Y (gr_runS (as := [.long a0, .long a2]) (rest := []) X G Y (ok_c_commonDivisor hc) cs_RX11_361 ⟨Nat.le_of_ble_eq_true rfl, Nat.le_of_ble_eq_true rfl⟩ rfl hl.1 (Nat.le_of_ble_eq_true rfl) (dck_at da_X11_lowest 2 rfl)) (fun H locs Y => ?_)
  refine lv_lstore (lv' := [(5, .long r1), (0, .long a0), (2, .long a2), (4, .int a4)]) X.1 X.2.1 (dck_at da_X11_lowest 3 rfl) hl (by decide) rfl (fun ls hl => ?_)
  refine lv_lload X.1 X.2.1 (dck_at da_X11_lowest 4 rfl) (lv_at hl 0 rfl) ?_
  refine lv_lconst (v := 0) X.1 X.2.1 (dck_at da_X11_lowest 5 rfl) rfl ?_
  refine W.lcmp X.1 X.2.1 (dck_at da_X11_lowest 6 rfl) ?_
  refine lv_if_gt (tgt := 16) X.1 X.2.1 (dck_at da_X11_lowest 7 rfl) rfl (fun c => ?_) (fun c => ?_)
  · have h := gI_pos h c
    refine lv_iload X.1 X.2.1 (dck_at da_X11_lowest 10 rfl) (lv_at hl 3 rfl) ?_
    refine lv_if_ne (tgt := 25) X.1 X.2.1 (dck_at da_X11_lowest 11 rfl) rfl (fun c => ?_) (fun c => ?_)
    · have h := gI_neg h c
      refine lv_lload_n X.1 X.2.1 (dck_at da_X11_lowest 14 rfl) rfl (lv_at hl 2 rfl) ?_
      exact b26 r1 a2 s1 _ _ _ h Y (lv_sub hl [0] rfl)
    · have h := gI_pos h c
      refine lv_lload_n X.1 X.2.1 (dck_at da_X11_lowest 12 rfl) rfl (lv_at hl 1 rfl) ?_
      refine lv_goto (tgt := 26) X.1 X.2.1 (dck_at da_X11_lowest 13 rfl) rfl ?_
      exact b26 r1 a0 s1 _ _ _ h Y (lv_sub hl [0] rfl)
  · have h := gI_neg h c
    refine lv_lconst (v := 0) X.1 X.2.1 (dck_at da_X11_lowest 8 rfl) rfl ?_
    exact gr_lretO X Y h hr hlk (dck_at da_X11_lowest 9 rfl)
set_option maxRecDepth 100000 in
set_option maxHeartbeats 4000000 in
theorem ok_c_odds {l : Launch} {D : va_G} {cy : Nat → ClassId} {ad sa : Nat → Nat} {A : Nat → Prop} {F : Nat} {a1 : Int32} {a2 : Int32} {s0 : St} {ρ : Int64} {σ' : St} (h : c_odds F a1 a2 s0 = some (ρ, σ')) : gMl l shC D cy ad sa A yX11_odds cX11_odds 5 (some .long) 3 [.ref (ad 0), .int a1, .int a2] s0 ρ σ' := by
  refine gM_of (by decide) (Nat.le_of_ble_eq_true rfl) ?_
  intro p e s m args below meth c ls X G Y hr hlk hl
  have hl : lv_has ls 5 [(0, .ref (ad 0)), (1, .int a1), (2, .int a2)] := hl
  have b14 : ∀  (s0 : St) (H : Heap) (locs : List Loc) (ls : Array Slot), c_odds_J14 F  s0 = some (ρ, σ') → gY shC D cy ad A s0 s H locs → lv_has ls 5 [(0, .ref (ad 0))] → W p l e (grm 3) s m args below meth c H locs 0 0 (MQ below (va_Ql (fun (q : Int64) (_ : Unit) => q = ρ) (fun _ t => va_P D vwCl (gWl shC cy ad σ') t.heap) A) args s 0 0 A) (F0 m 14 ls []) := by
    intro s0 H locs ls h Y hl
    unfold c_odds_J14 at h
    refine lv_aload_n X.1 X.2.1 (dck_at da_X11_odds 6 rfl) rfl (lv_at hl 0 rfl) ?_
    refine lv_iconst X.1 X.2.1 (dck_at da_X11_odds 7 rfl) ki_m1 ?_
    obtain ⟨r1, s1, hc, h⟩ := gB2_some h
    refine gr_backi Y (gr_runV (as := [.int (-1 : Int32)]) (rest := []) X G Y (ok_c_refuse hc) cv_RX11_55 clC_0 ⟨Nat.le_of_ble_eq_true rfl, Nat.le_of_ble_eq_true rfl⟩ rfl hl.1 (Nat.le_of_ble_eq_true rfl) (dck_at da_X11_odds 8 rfl)) (fun H locs Y => ?_)
    refine lv_i2l (v := (r1).toInt64) X.1 X.2.1 (dck_at da_X11_odds 9 rfl) rfl ?_
    exact gr_lretO X Y h hr hlk (dck_at da_X11_odds 10 rfl)
  unfold c_odds at h
  refine lv_iload_n X.1 X.2.1 (dck_at da_X11_odds 0 rfl) rfl (lv_at hl 1 rfl) ?_
  obtain ⟨r2, s2, hc, h⟩ := gB2_some h
  refine gr_backi Y (gr_runS (as := [.int a1]) (rest := []) X G Y (ok_c_isCell hc) cs_RX11_48 ⟨Nat.le_of_ble_eq_true rfl, Nat.le_of_ble_eq_true rfl⟩ rfl hl.1 (Nat.le_of_ble_eq_true rfl) (dck_at da_X11_odds 1 rfl)) (fun H locs Y => ?_)
  refine lv_if_eq (tgt := 14) X.1 X.2.1 (dck_at da_X11_odds 2 rfl) rfl (fun c => ?_) (fun c => ?_)
  · have h := gI_pos h c
    exact b14 s2 _ _ _ h Y (lv_sub hl [0] rfl)
  · have h := gI_neg h c
    refine lv_iload_n X.1 X.2.1 (dck_at da_X11_odds 3 rfl) rfl (lv_at hl 2 rfl) ?_
    obtain ⟨r3, s3, hc, h⟩ := gB2_some h
    refine gr_backi Y (gr_runS (as := [.int a2]) (rest := []) X G Y (ok_c_isPart hc) cs_RX11_155 ⟨Nat.le_of_ble_eq_true rfl, Nat.le_of_ble_eq_true rfl⟩ rfl hl.1 (Nat.le_of_ble_eq_true rfl) (dck_at da_X11_odds 4 rfl)) (fun H locs Y => ?_)
    refine lv_if_ne (tgt := 21) X.1 X.2.1 (dck_at da_X11_odds 5 rfl) rfl (fun c => ?_) (fun c => ?_)
    · have h := gI_neg h c
      refine lv_aload_n X.1 X.2.1 (dck_at da_X11_odds 11 rfl) rfl (lv_at hl 0 rfl) ?_
      refine gr_getR X G Y fk_RX11_12 clC_0 rfl (dck_at da_X11_odds 12 rfl) ?_
      refine gr_getR X G Y fk_RX11_122 clC_1 rfl (dck_at da_X11_odds 13 rfl) ?_
      obtain ⟨r4, s4, hc, h⟩ := gB2_some h
      refine gr_backl Y (gr_runV (as := []) (rest := []) X G Y (ok_c_Night_all hc) cv_RX11_158 clC_9 ⟨Nat.le_of_ble_eq_true rfl, Nat.le_of_ble_eq_true rfl⟩ rfl hl.1 (Nat.le_of_ble_eq_true rfl) (dck_at da_X11_odds 14 rfl)) (fun H locs Y => ?_)
      refine lv_lstore_n (lv' := [(3, .long r4), (0, .ref (ad 0)), (1, .int a1), (2, .int a2)]) X.1 X.2.1 (dck_at da_X11_odds 15 rfl) rfl hl (by decide) rfl (fun ls hl => ?_)
      refine lv_lload_n X.1 X.2.1 (dck_at da_X11_odds 16 rfl) rfl (lv_at hl 0 rfl) ?_
      refine lv_lconst (v := 0) X.1 X.2.1 (dck_at da_X11_odds 17 rfl) rfl ?_
      refine W.lcmp X.1 X.2.1 (dck_at da_X11_odds 18 rfl) ?_
      refine lv_if_gt (tgt := 46) X.1 X.2.1 (dck_at da_X11_odds 19 rfl) rfl (fun c => ?_) (fun c => ?_)
      · have h := gI_pos h c
        refine lv_aload_n X.1 X.2.1 (dck_at da_X11_odds 25 rfl) rfl (lv_at hl 1 rfl) ?_
        refine gr_getR X G Y fk_RX11_12 clC_0 rfl (dck_at da_X11_odds 26 rfl) ?_
        refine gr_getR X G Y fk_RX11_122 clC_1 rfl (dck_at da_X11_odds 27 rfl) ?_
        refine lv_iload_n X.1 X.2.1 (dck_at da_X11_odds 28 rfl) rfl (lv_at hl 2 rfl) ?_
        obtain ⟨r5, s5, hc, h⟩ := gB2_some h
        refine gr_backl Y (gr_runV (as := [.int a1]) (rest := []) X G Y (ok_c_Night_together hc) cv_RX11_151 clC_9 ⟨Nat.le_of_ble_eq_true rfl, Nat.le_of_ble_eq_true rfl⟩ rfl hl.1 (Nat.le_of_ble_eq_true rfl) (dck_at da_X11_odds 29 rfl)) (fun H locs Y => ?_)
        refine lv_lload_n X.1 X.2.1 (dck_at da_X11_odds 30 rfl) rfl (lv_at hl 0 rfl) ?_
        refine lv_iload_n X.1 X.2.1 (dck_at da_X11_odds 31 rfl) rfl (lv_at hl 3 rfl) ?_
        obtain ⟨r6, s6, hc, h⟩ := gB2_some h
        refine gr_backl Y (gr_runS (as := [.long r5, .long r4, .int a2]) (rest := []) X G Y (ok_c_lowest hc) cs_RX11_162 ⟨Nat.le_of_ble_eq_true rfl, Nat.le_of_ble_eq_true rfl⟩ rfl hl.1 (Nat.le_of_ble_eq_true rfl) (dck_at da_X11_odds 32 rfl)) (fun H locs Y => ?_)
        exact gr_lretO X Y h hr hlk (dck_at da_X11_odds 33 rfl)
      · have h := gI_neg h c
        refine lv_aload_n X.1 X.2.1 (dck_at da_X11_odds 20 rfl) rfl (lv_at hl 1 rfl) ?_
        refine lv_bipush X.1 X.2.1 (dck_at da_X11_odds 21 rfl) kb_m4 ?_
        obtain ⟨r7, s7, hc, h⟩ := gB2_some h
        refine gr_backi Y (gr_runV (as := [.int (-4 : Int32)]) (rest := []) X G Y (ok_c_refuse hc) cv_RX11_55 clC_0 ⟨Nat.le_of_ble_eq_true rfl, Nat.le_of_ble_eq_true rfl⟩ rfl hl.1 (Nat.le_of_ble_eq_true rfl) (dck_at da_X11_odds 22 rfl)) (fun H locs Y => ?_)
        refine lv_i2l (v := (r7).toInt64) X.1 X.2.1 (dck_at da_X11_odds 23 rfl) rfl ?_
        exact gr_lretO X Y h hr hlk (dck_at da_X11_odds 24 rfl)
    · have h := gI_pos h c
      exact b14 s3 _ _ _ h Y (lv_sub hl [0] rfl)
set_option maxRecDepth 100000 in
set_option maxHeartbeats 4000000 in
theorem ok_c_Night_fullest {l : Launch} {D : va_G} {cy : Nat → ClassId} {ad sa : Nat → Nat} {A : Nat → Prop} {F : Nat} {a1 : Int32} {s0 : St} {ρ : Int32} {σ' : St} (h : c_Night_fullest F a1 s0 = some (ρ, σ')) : gMi l shC D cy ad sa A yX6_fullest cX6_fullest 8 (some .int) 2 [.ref (ad 9), .int a1] s0 ρ σ' := by
  refine gM_of (by decide) (Nat.le_of_ble_eq_true rfl) ?_
  intro p e s m args below meth c ls X G Y hr hlk hl
  have hl : lv_has ls 8 [(0, .ref (ad 9)), (1, .int a1)] := hl
  have b7 : ∀ n : Nat, ∀ (x1 : Int32) (x2 : Int32) (x3 : Int64) (x5 : Int32) (s0 : St) (H : Heap) (locs : List Loc) (ls : Array Slot), c_Night_fullest_L7 F  n x1 x2 x3 x5 s0 = some (ρ, σ') → gY shC D cy ad A s0 s H locs → lv_has ls 8 [(0, .ref (ad 9)), (1, .int x1), (2, .int x2), (3, .long x3), (5, .int x5)] → W p l e (grm 2) s m args below meth c H locs 0 0 (MQ below (va_Qi (fun (q : Int32) (_ : Unit) => q = ρ) (fun _ t => va_P D vwCl (gWl shC cy ad σ') t.heap) A) args s 0 0 A) (F0 m 7 ls []) := by
    intro n
    induction n with
    | zero => intro x1 x2 x3 x5 s0 H locs ls h Y hl; exact (gnone h).elim
    | succ n hk7 =>
      have e : c_Night_fullest_L7 F  (n + 1) = c_Night_fullest_L7b F  (c_Night_fullest_L7 F  n) := rfl
      rw [e]; clear e
      generalize c_Night_fullest_L7 F  n = k7 at hk7 ⊢
      have b50 : ∀ (x1 : Int32) (x2 : Int32) (x3 : Int64) (x5 : Int32) (s0 : St) (H : Heap) (locs : List Loc) (ls : Array Slot), c_Night_fullest_J50 F k7 x1 x2 x3 x5 s0 = some (ρ, σ') → gY shC D cy ad A s0 s H locs → lv_has ls 8 [(0, .ref (ad 9)), (1, .int x1), (2, .int x2), (3, .long x3), (5, .int x5)] → W p l e (grm 2) s m args below meth c H locs 0 0 (MQ below (va_Qi (fun (q : Int32) (_ : Unit) => q = ρ) (fun _ t => va_P D vwCl (gWl shC cy ad σ') t.heap) A) args s 0 0 A) (F0 m 50 ls []) := by
        intro x1 x2 x3 x5 s0 H locs ls h Y hl
        unfold c_Night_fullest_J50 at h
        refine lv_iinc (v := x5 + (1 : Int32)) (lv' := [(5, .int (x5 + (1 : Int32))), (0, .ref (ad 9)), (1, .int x1), (2, .int x2), (3, .long x3)]) X.1 X.2.1 (dck_at da_X6_fullest 28 rfl) hl (k := 4) rfl (congrArg (HAdd.hAdd _) ki_1) (by decide) rfl (fun ls hl => ?_)
        refine lv_goto (tgt := 7) X.1 X.2.1 (dck_at da_X6_fullest 29 rfl) rfl ?_
        exact hk7 x1 x2 x3 (x5 + (1 : Int32)) s0 _ _ _ h Y (lv_sub hl [1, 2, 3, 4, 0] rfl)
      have b35 : ∀ (x1 : Int32) (x2 : Int32) (x3 : Int64) (x5 : Int32) (y0 : Int64) (s0 : St) (H : Heap) (locs : List Loc) (ls : Array Slot), c_Night_fullest_J35 F k7 x1 x2 x3 x5 y0 s0 = some (ρ, σ') → gY shC D cy ad A s0 s H locs → lv_has ls 8 [(0, .ref (ad 9)), (1, .int x1), (2, .int x2), (3, .long x3), (5, .int x5)] → W p l e (grm 2) s m args below meth c H locs 0 0 (MQ below (va_Qi (fun (q : Int32) (_ : Unit) => q = ρ) (fun _ t => va_P D vwCl (gWl shC cy ad σ') t.heap) A) args s 0 0 A) (F0 m 35 ls [.long y0]) := by
        intro x1 x2 x3 x5 y0 s0 H locs ls h Y hl
        unfold c_Night_fullest_J35 at h
        refine lv_lstore (lv' := [(6, .long y0), (0, .ref (ad 9)), (1, .int x1), (2, .int x2), (3, .long x3), (5, .int x5)]) X.1 X.2.1 (dck_at da_X6_fullest 19 rfl) hl (by decide) rfl (fun ls hl => ?_)
        refine lv_lload X.1 X.2.1 (dck_at da_X6_fullest 20 rfl) (lv_at hl 0 rfl) ?_
        refine lv_lload_n X.1 X.2.1 (dck_at da_X6_fullest 21 rfl) rfl (lv_at hl 4 rfl) ?_
        refine W.lcmp X.1 X.2.1 (dck_at da_X6_fullest 22 rfl) ?_
        refine lv_if_le (tgt := 50) X.1 X.2.1 (dck_at da_X6_fullest 23 rfl) rfl (fun c => ?_) (fun c => ?_)
        · have h := gI_pos h c
          exact b50 x1 x2 x3 x5 s0 _ _ _ h Y (lv_sub hl [1, 2, 3, 4, 5] rfl)
        · have h := gI_neg h c
          refine lv_lload X.1 X.2.1 (dck_at da_X6_fullest 24 rfl) (lv_at hl 0 rfl) ?_
          refine lv_lstore_n (lv' := [(3, .long y0), (6, .long y0), (0, .ref (ad 9)), (1, .int x1), (2, .int x2), (5, .int x5)]) X.1 X.2.1 (dck_at da_X6_fullest 25 rfl) rfl hl (by decide) rfl (fun ls hl => ?_)
          refine lv_iload X.1 X.2.1 (dck_at da_X6_fullest 26 rfl) (lv_at hl 5 rfl) ?_
          refine lv_istore_n (lv' := [(2, .int x5), (3, .long y0), (6, .long y0), (0, .ref (ad 9)), (1, .int x1), (5, .int x5)]) X.1 X.2.1 (dck_at da_X6_fullest 27 rfl) rfl hl (by decide) rfl (fun ls hl => ?_)
          exact b50 x1 x5 y0 x5 s0 _ _ _ h Y (lv_sub hl [3, 4, 0, 1, 5] rfl)
      intro x1 x2 x3 x5 s0 H locs ls h Y hl
      unfold c_Night_fullest_L7b at h
      refine lv_iload X.1 X.2.1 (dck_at da_X6_fullest 6 rfl) (lv_at hl 4 rfl) ?_
      refine lv_sipush X.1 X.2.1 (dck_at da_X6_fullest 7 rfl) ks_144 ?_
      refine lv_icmp_ge (tgt := 56) X.1 X.2.1 (dck_at da_X6_fullest 8 rfl) rfl (fun c => ?_) (fun c => ?_)
      · have h := gI_pos h c
        refine lv_iload_n X.1 X.2.1 (dck_at da_X6_fullest 30 rfl) rfl (lv_at hl 2 rfl) ?_
        exact gr_iretO X Y h hr rfl hlk (dck_at da_X6_fullest 31 rfl)
      · have h := gI_neg h c
        refine lv_iload_n X.1 X.2.1 (dck_at da_X6_fullest 9 rfl) rfl (lv_at hl 1 rfl) ?_
        refine lv_if_eq (tgt := 29) X.1 X.2.1 (dck_at da_X6_fullest 10 rfl) rfl (fun c => ?_) (fun c => ?_)
        · have h := gI_pos h c
          refine lv_aload_n X.1 X.2.1 (dck_at da_X6_fullest 16 rfl) rfl (lv_at hl 0 rfl) ?_
          refine lv_iload X.1 X.2.1 (dck_at da_X6_fullest 17 rfl) (lv_at hl 4 rfl) ?_
          obtain ⟨r1, s1, hc, h⟩ := gB2_some h
          refine gr_backl Y (gr_runV (as := [.int x5]) (rest := []) X G Y (ok_c_Night_together hc) cv_RX6_43 clC_9 ⟨Nat.le_of_ble_eq_true rfl, Nat.le_of_ble_eq_true rfl⟩ rfl hl.1 (Nat.le_of_ble_eq_true rfl) (dck_at da_X6_fullest 18 rfl)) (fun H locs Y => ?_)
          exact b35 x1 x2 x3 x5 r1 s1 _ _ _ h Y (lv_sub hl [0, 1, 2, 3, 4] rfl)
        · have h := gI_neg h c
          refine lv_aload_n X.1 X.2.1 (dck_at da_X6_fullest 11 rfl) rfl (lv_at hl 0 rfl) ?_
          refine gr_getR X G Y fk_RX6_15 clC_9 rfl (dck_at da_X6_fullest 12 rfl) ?_
          refine lv_iload X.1 X.2.1 (dck_at da_X6_fullest 13 rfl) (lv_at hl 4 rfl) ?_
          obtain ⟨hin, h⟩ := gI_if h
          refine gr_lald X G Y clC_11 hin (dck_at da_X6_fullest 14 rfl) ?_
          refine lv_goto (tgt := 35) X.1 X.2.1 (dck_at da_X6_fullest 15 rfl) rfl ?_
          exact b35 x1 x2 x3 x5 (s0.2 11 (x5).toNatClampNeg) s0 _ _ _ h Y (lv_sub hl [0, 1, 2, 3, 4] rfl)
  unfold c_Night_fullest at h
  refine lv_iconst X.1 X.2.1 (dck_at da_X6_fullest 0 rfl) ki_m1 ?_
  refine lv_istore_n (lv' := [(2, .int (-1 : Int32)), (0, .ref (ad 9)), (1, .int a1)]) X.1 X.2.1 (dck_at da_X6_fullest 1 rfl) rfl hl (by decide) rfl (fun ls hl => ?_)
  refine lv_lconst (v := 0) X.1 X.2.1 (dck_at da_X6_fullest 2 rfl) rfl ?_
  refine lv_lstore_n (lv' := [(3, .long (0 : Int64)), (2, .int (-1 : Int32)), (0, .ref (ad 9)), (1, .int a1)]) X.1 X.2.1 (dck_at da_X6_fullest 3 rfl) rfl hl (by decide) rfl (fun ls hl => ?_)
  refine lv_iconst X.1 X.2.1 (dck_at da_X6_fullest 4 rfl) ki_0 ?_
  refine lv_istore (lv' := [(5, .int (0 : Int32)), (3, .long (0 : Int64)), (2, .int (-1 : Int32)), (0, .ref (ad 9)), (1, .int a1)]) X.1 X.2.1 (dck_at da_X6_fullest 5 rfl) hl (by decide) rfl (fun ls hl => ?_)
  exact b7 F a1 (-1 : Int32) (0 : Int64) (0 : Int32) s0 _ _ _ h Y (lv_sub hl [3, 4, 2, 1, 0] rfl)
set_option maxRecDepth 100000 in
set_option maxHeartbeats 4000000 in
theorem ok_c_where {l : Launch} {D : va_G} {cy : Nat → ClassId} {ad sa : Nat → Nat} {A : Nat → Prop} {F : Nat} {a1 : Int32} {s0 : St} {ρ : Int32} {σ' : St} (h : c_where F a1 s0 = some (ρ, σ')) : gMi l shC D cy ad sa A yX11_where cX11_where 3 (some .int) 3 [.ref (ad 0), .int a1] s0 ρ σ' := by
  refine gM_of (by decide) (Nat.le_of_ble_eq_true rfl) ?_
  intro p e s m args below meth c ls X G Y hr hlk hl
  have hl : lv_has ls 3 [(0, .ref (ad 0)), (1, .int a1)] := hl
  have b32 : ∀ (y1 : Int32) (s0 : St) (H : Heap) (locs : List Loc) (ls : Array Slot), c_where_J32 F  y1 s0 = some (ρ, σ') → gY shC D cy ad A s0 s H locs → lv_has ls 3 [(0, .ref (ad 0))] → W p l e (grm 3) s m args below meth c H locs 0 0 (MQ below (va_Qi (fun (q : Int32) (_ : Unit) => q = ρ) (fun _ t => va_P D vwCl (gWl shC cy ad σ') t.heap) A) args s 0 0 A) (F0 m 32 ls [.int y1, .ref (ad 9)]) := by
    intro y1 s0 H locs ls h Y hl
    unfold c_where_J32 at h
    obtain ⟨r1, s1, hc, h⟩ := gB2_some h
    refine gr_backi Y (gr_runV (as := [.int y1]) (rest := []) X G Y (ok_c_Night_fullest hc) cv_RX11_166 clC_9 ⟨Nat.le_of_ble_eq_true rfl, Nat.le_of_ble_eq_true rfl⟩ rfl hl.1 (Nat.le_of_ble_eq_true rfl) (dck_at da_X11_where 18 rfl)) (fun H locs Y => ?_)
    refine lv_istore_n (lv' := [(2, .int r1), (0, .ref (ad 0))]) X.1 X.2.1 (dck_at da_X11_where 19 rfl) rfl hl (by decide) rfl (fun ls hl => ?_)
    refine lv_iload_n X.1 X.2.1 (dck_at da_X11_where 20 rfl) rfl (lv_at hl 0 rfl) ?_
    refine lv_if_ge (tgt := 49) X.1 X.2.1 (dck_at da_X11_where 21 rfl) rfl (fun c => ?_) (fun c => ?_)
    · have h := gI_pos h c
      refine lv_iload_n X.1 X.2.1 (dck_at da_X11_where 26 rfl) rfl (lv_at hl 0 rfl) ?_
      exact gr_iretO X Y h hr rfl hlk (dck_at da_X11_where 27 rfl)
    · have h := gI_neg h c
      refine lv_aload_n X.1 X.2.1 (dck_at da_X11_where 22 rfl) rfl (lv_at hl 1 rfl) ?_
      refine lv_bipush X.1 X.2.1 (dck_at da_X11_where 23 rfl) kb_m4 ?_
      obtain ⟨r2, s2, hc, h⟩ := gB2_some h
      refine gr_backi Y (gr_runV (as := [.int (-4 : Int32)]) (rest := []) X G Y (ok_c_refuse hc) cv_RX11_55 clC_0 ⟨Nat.le_of_ble_eq_true rfl, Nat.le_of_ble_eq_true rfl⟩ rfl hl.1 (Nat.le_of_ble_eq_true rfl) (dck_at da_X11_where 24 rfl)) (fun H locs Y => ?_)
      refine lv_goto (tgt := 50) X.1 X.2.1 (dck_at da_X11_where 25 rfl) rfl ?_
      exact gr_iretO X Y h hr rfl hlk (dck_at da_X11_where 27 rfl)
  unfold c_where at h
  refine lv_iload_n X.1 X.2.1 (dck_at da_X11_where 0 rfl) rfl (lv_at hl 1 rfl) ?_
  refine lv_iconst X.1 X.2.1 (dck_at da_X11_where 1 rfl) ki_0 ?_
  refine lv_iconst X.1 X.2.1 (dck_at da_X11_where 2 rfl) ki_1 ?_
  obtain ⟨r3, s3, hc, h⟩ := gB2_some h
  refine gr_backi Y (gr_runS (as := [.int a1, .int (0 : Int32), .int (1 : Int32)]) (rest := []) X G Y (ok_c_isIn hc) cs_RX11_68 ⟨Nat.le_of_ble_eq_true rfl, Nat.le_of_ble_eq_true rfl⟩ rfl hl.1 (Nat.le_of_ble_eq_true rfl) (dck_at da_X11_where 3 rfl)) (fun H locs Y => ?_)
  refine lv_if_ne (tgt := 15) X.1 X.2.1 (dck_at da_X11_where 4 rfl) rfl (fun c => ?_) (fun c => ?_)
  · have h := gI_neg h c
    refine lv_aload_n X.1 X.2.1 (dck_at da_X11_where 9 rfl) rfl (lv_at hl 0 rfl) ?_
    refine gr_getR X G Y fk_RX11_12 clC_0 rfl (dck_at da_X11_where 10 rfl) ?_
    refine gr_getR X G Y fk_RX11_122 clC_1 rfl (dck_at da_X11_where 11 rfl) ?_
    refine lv_iload_n X.1 X.2.1 (dck_at da_X11_where 12 rfl) rfl (lv_at hl 1 rfl) ?_
    refine lv_iconst X.1 X.2.1 (dck_at da_X11_where 13 rfl) ki_1 ?_
    refine lv_icmp_ne (tgt := 31) X.1 X.2.1 (dck_at da_X11_where 14 rfl) rfl (fun c => ?_) (fun c => ?_)
    · have h := gI_neg h c
      refine lv_iconst X.1 X.2.1 (dck_at da_X11_where 17 rfl) ki_0 ?_
      exact b32 (0 : Int32) s3 _ _ _ h Y (lv_sub hl [0] rfl)
    · have h := gI_pos h c
      refine lv_iconst X.1 X.2.1 (dck_at da_X11_where 15 rfl) ki_1 ?_
      refine lv_goto (tgt := 32) X.1 X.2.1 (dck_at da_X11_where 16 rfl) rfl ?_
      exact b32 (1 : Int32) s3 _ _ _ h Y (lv_sub hl [0] rfl)
  · have h := gI_pos h c
    refine lv_aload_n X.1 X.2.1 (dck_at da_X11_where 5 rfl) rfl (lv_at hl 0 rfl) ?_
    refine lv_iconst X.1 X.2.1 (dck_at da_X11_where 6 rfl) ki_m1 ?_
    obtain ⟨r4, s4, hc, h⟩ := gB2_some h
    refine gr_backi Y (gr_runV (as := [.int (-1 : Int32)]) (rest := []) X G Y (ok_c_refuse hc) cv_RX11_55 clC_0 ⟨Nat.le_of_ble_eq_true rfl, Nat.le_of_ble_eq_true rfl⟩ rfl hl.1 (Nat.le_of_ble_eq_true rfl) (dck_at da_X11_where 7 rfl)) (fun H locs Y => ?_)
    exact gr_iretO X Y h hr rfl hlk (dck_at da_X11_where 8 rfl)
set_option maxRecDepth 100000 in
set_option maxHeartbeats 4000000 in
theorem ok_c_Land_searchedCells {l : Launch} {D : va_G} {cy : Nat → ClassId} {ad sa : Nat → Nat} {A : Nat → Prop} {F : Nat}  {s0 : St} {ρ : Int32} {σ' : St} (h : c_Land_searchedCells F s0 = some (ρ, σ')) : gMi l shC D cy ad sa A yX3_searchedCells cX3_searchedCells 3 (some .int) 1 [.ref (ad 2)] s0 ρ σ' := by
  refine gM_of (by decide) (Nat.le_of_ble_eq_true rfl) ?_
  intro p e s m args below meth c ls X G Y hr hlk hl
  have hl : lv_has ls 3 [(0, .ref (ad 2))] := hl
  have b4 : ∀ n : Nat, ∀ (x1 : Int32) (x2 : Int32) (s0 : St) (H : Heap) (locs : List Loc) (ls : Array Slot), c_Land_searchedCells_L4 F  n x1 x2 s0 = some (ρ, σ') → gY shC D cy ad A s0 s H locs → lv_has ls 3 [(0, .ref (ad 2)), (1, .int x1), (2, .int x2)] → W p l e (grm 1) s m args below meth c H locs 0 0 (MQ below (va_Qi (fun (q : Int32) (_ : Unit) => q = ρ) (fun _ t => va_P D vwCl (gWl shC cy ad σ') t.heap) A) args s 0 0 A) (F0 m 4 ls []) := by
    intro n
    induction n with
    | zero => intro x1 x2 s0 H locs ls h Y hl; exact (gnone h).elim
    | succ n hk4 =>
      have e : c_Land_searchedCells_L4 F  (n + 1) = c_Land_searchedCells_L4b F  (c_Land_searchedCells_L4 F  n) := rfl
      rw [e]; clear e
      generalize c_Land_searchedCells_L4 F  n = k4 at hk4 ⊢
      have b23 : ∀ (x1 : Int32) (x2 : Int32) (s0 : St) (H : Heap) (locs : List Loc) (ls : Array Slot), c_Land_searchedCells_J23 F k4 x1 x2 s0 = some (ρ, σ') → gY shC D cy ad A s0 s H locs → lv_has ls 3 [(0, .ref (ad 2)), (1, .int x1), (2, .int x2)] → W p l e (grm 1) s m args below meth c H locs 0 0 (MQ below (va_Qi (fun (q : Int32) (_ : Unit) => q = ρ) (fun _ t => va_P D vwCl (gWl shC cy ad σ') t.heap) A) args s 0 0 A) (F0 m 23 ls []) := by
        intro x1 x2 s0 H locs ls h Y hl
        unfold c_Land_searchedCells_J23 at h
        refine lv_iinc (v := x2 + (1 : Int32)) (lv' := [(2, .int (x2 + (1 : Int32))), (0, .ref (ad 2)), (1, .int x1)]) X.1 X.2.1 (dck_at da_X3_searchedCells 13 rfl) hl (k := 2) rfl (congrArg (HAdd.hAdd _) ki_1) (by decide) rfl (fun ls hl => ?_)
        refine lv_goto (tgt := 4) X.1 X.2.1 (dck_at da_X3_searchedCells 14 rfl) rfl ?_
        exact hk4 x1 (x2 + (1 : Int32)) s0 _ _ _ h Y (lv_sub hl [1, 2, 0] rfl)
      intro x1 x2 s0 H locs ls h Y hl
      unfold c_Land_searchedCells_L4b at h
      refine lv_iload_n X.1 X.2.1 (dck_at da_X3_searchedCells 4 rfl) rfl (lv_at hl 2 rfl) ?_
      refine lv_sipush X.1 X.2.1 (dck_at da_X3_searchedCells 5 rfl) ks_144 ?_
      refine lv_icmp_ge (tgt := 29) X.1 X.2.1 (dck_at da_X3_searchedCells 6 rfl) rfl (fun c => ?_) (fun c => ?_)
      · have h := gI_pos h c
        refine lv_iload_n X.1 X.2.1 (dck_at da_X3_searchedCells 15 rfl) rfl (lv_at hl 1 rfl) ?_
        exact gr_iretO X Y h hr rfl hlk (dck_at da_X3_searchedCells 16 rfl)
      · have h := gI_neg h c
        refine lv_aload_n X.1 X.2.1 (dck_at da_X3_searchedCells 7 rfl) rfl (lv_at hl 0 rfl) ?_
        refine gr_getR X G Y fk_RX3_18 clC_2 rfl (dck_at da_X3_searchedCells 8 rfl) ?_
        refine lv_iload_n X.1 X.2.1 (dck_at da_X3_searchedCells 9 rfl) rfl (lv_at hl 2 rfl) ?_
        obtain ⟨hin, h⟩ := gI_if h
        refine gr_iald X G Y clC_5 hin (dck_at da_X3_searchedCells 10 rfl) ?_
        refine lv_if_le (tgt := 23) X.1 X.2.1 (dck_at da_X3_searchedCells 11 rfl) rfl (fun c => ?_) (fun c => ?_)
        · have h := gI_pos h c
          exact b23 x1 x2 s0 _ _ _ h Y (lv_sub hl [0, 1, 2] rfl)
        · have h := gI_neg h c
          refine lv_iinc (v := x1 + (1 : Int32)) (lv' := [(1, .int (x1 + (1 : Int32))), (0, .ref (ad 2)), (2, .int x2)]) X.1 X.2.1 (dck_at da_X3_searchedCells 12 rfl) hl (k := 1) rfl (congrArg (HAdd.hAdd _) ki_1) (by decide) rfl (fun ls hl => ?_)
          exact b23 (x1 + (1 : Int32)) x2 s0 _ _ _ h Y (lv_sub hl [1, 0, 2] rfl)
  unfold c_Land_searchedCells at h
  refine lv_iconst X.1 X.2.1 (dck_at da_X3_searchedCells 0 rfl) ki_0 ?_
  refine lv_istore_n (lv' := [(1, .int (0 : Int32)), (0, .ref (ad 2))]) X.1 X.2.1 (dck_at da_X3_searchedCells 1 rfl) rfl hl (by decide) rfl (fun ls hl => ?_)
  refine lv_iconst X.1 X.2.1 (dck_at da_X3_searchedCells 2 rfl) ki_0 ?_
  refine lv_istore_n (lv' := [(2, .int (0 : Int32)), (1, .int (0 : Int32)), (0, .ref (ad 2))]) X.1 X.2.1 (dck_at da_X3_searchedCells 3 rfl) rfl hl (by decide) rfl (fun ls hl => ?_)
  exact b4 F (0 : Int32) (0 : Int32) s0 _ _ _ h Y (lv_sub hl [2, 1, 0] rfl)
set_option maxRecDepth 100000 in
set_option maxHeartbeats 4000000 in
theorem ok_c_Land_cellsOf {l : Launch} {D : va_G} {cy : Nat → ClassId} {ad sa : Nat → Nat} {A : Nat → Prop} {F : Nat} {a1 : Int32} {s0 : St} {ρ : Int32} {σ' : St} (h : c_Land_cellsOf F a1 s0 = some (ρ, σ')) : gMi l shC D cy ad sa A yX3_cellsOf cX3_cellsOf 4 (some .int) 1 [.ref (ad 2), .int a1] s0 ρ σ' := by
  refine gM_of (by decide) (Nat.le_of_ble_eq_true rfl) ?_
  intro p e s m args below meth c ls X G Y hr hlk hl
  have hl : lv_has ls 4 [(0, .ref (ad 2)), (1, .int a1)] := hl
  have b4 : ∀ n : Nat, ∀ (x1 : Int32) (x2 : Int32) (x3 : Int32) (s0 : St) (H : Heap) (locs : List Loc) (ls : Array Slot), c_Land_cellsOf_L4 F  n x1 x2 x3 s0 = some (ρ, σ') → gY shC D cy ad A s0 s H locs → lv_has ls 4 [(0, .ref (ad 2)), (1, .int x1), (2, .int x2), (3, .int x3)] → W p l e (grm 1) s m args below meth c H locs 0 0 (MQ below (va_Qi (fun (q : Int32) (_ : Unit) => q = ρ) (fun _ t => va_P D vwCl (gWl shC cy ad σ') t.heap) A) args s 0 0 A) (F0 m 4 ls []) := by
    intro n
    induction n with
    | zero => intro x1 x2 x3 s0 H locs ls h Y hl; exact (gnone h).elim
    | succ n hk4 =>
      have e : c_Land_cellsOf_L4 F  (n + 1) = c_Land_cellsOf_L4b F  (c_Land_cellsOf_L4 F  n) := rfl
      rw [e]; clear e
      generalize c_Land_cellsOf_L4 F  n = k4 at hk4 ⊢
      have b24 : ∀ (x1 : Int32) (x2 : Int32) (x3 : Int32) (s0 : St) (H : Heap) (locs : List Loc) (ls : Array Slot), c_Land_cellsOf_J24 F k4 x1 x2 x3 s0 = some (ρ, σ') → gY shC D cy ad A s0 s H locs → lv_has ls 4 [(0, .ref (ad 2)), (1, .int x1), (2, .int x2), (3, .int x3)] → W p l e (grm 1) s m args below meth c H locs 0 0 (MQ below (va_Qi (fun (q : Int32) (_ : Unit) => q = ρ) (fun _ t => va_P D vwCl (gWl shC cy ad σ') t.heap) A) args s 0 0 A) (F0 m 24 ls []) := by
        intro x1 x2 x3 s0 H locs ls h Y hl
        unfold c_Land_cellsOf_J24 at h
        refine lv_iinc (v := x3 + (1 : Int32)) (lv' := [(3, .int (x3 + (1 : Int32))), (0, .ref (ad 2)), (1, .int x1), (2, .int x2)]) X.1 X.2.1 (dck_at da_X3_cellsOf 14 rfl) hl (k := 3) rfl (congrArg (HAdd.hAdd _) ki_1) (by decide) rfl (fun ls hl => ?_)
        refine lv_goto (tgt := 4) X.1 X.2.1 (dck_at da_X3_cellsOf 15 rfl) rfl ?_
        exact hk4 x1 x2 (x3 + (1 : Int32)) s0 _ _ _ h Y (lv_sub hl [1, 2, 3, 0] rfl)
      intro x1 x2 x3 s0 H locs ls h Y hl
      unfold c_Land_cellsOf_L4b at h
      refine lv_iload_n X.1 X.2.1 (dck_at da_X3_cellsOf 4 rfl) rfl (lv_at hl 3 rfl) ?_
      refine lv_sipush X.1 X.2.1 (dck_at da_X3_cellsOf 5 rfl) ks_144 ?_
      refine lv_icmp_ge (tgt := 30) X.1 X.2.1 (dck_at da_X3_cellsOf 6 rfl) rfl (fun c => ?_) (fun c => ?_)
      · have h := gI_pos h c
        refine lv_iload_n X.1 X.2.1 (dck_at da_X3_cellsOf 16 rfl) rfl (lv_at hl 2 rfl) ?_
        exact gr_iretO X Y h hr rfl hlk (dck_at da_X3_cellsOf 17 rfl)
      · have h := gI_neg h c
        refine lv_aload_n X.1 X.2.1 (dck_at da_X3_cellsOf 7 rfl) rfl (lv_at hl 0 rfl) ?_
        refine gr_getR X G Y fk_RX3_9 clC_2 rfl (dck_at da_X3_cellsOf 8 rfl) ?_
        refine lv_iload_n X.1 X.2.1 (dck_at da_X3_cellsOf 9 rfl) rfl (lv_at hl 3 rfl) ?_
        obtain ⟨hin, h⟩ := gI_if h
        refine gr_iald X G Y clC_3 hin (dck_at da_X3_cellsOf 10 rfl) ?_
        refine lv_iload_n X.1 X.2.1 (dck_at da_X3_cellsOf 11 rfl) rfl (lv_at hl 1 rfl) ?_
        refine lv_icmp_ne (tgt := 24) X.1 X.2.1 (dck_at da_X3_cellsOf 12 rfl) rfl (fun c => ?_) (fun c => ?_)
        · have h := gI_neg h c
          exact b24 x1 x2 x3 s0 _ _ _ h Y (lv_sub hl [0, 1, 2, 3] rfl)
        · have h := gI_pos h c
          refine lv_iinc (v := x2 + (1 : Int32)) (lv' := [(2, .int (x2 + (1 : Int32))), (0, .ref (ad 2)), (1, .int x1), (3, .int x3)]) X.1 X.2.1 (dck_at da_X3_cellsOf 13 rfl) hl (k := 2) rfl (congrArg (HAdd.hAdd _) ki_1) (by decide) rfl (fun ls hl => ?_)
          exact b24 x1 (x2 + (1 : Int32)) x3 s0 _ _ _ h Y (lv_sub hl [1, 2, 0, 3] rfl)
  unfold c_Land_cellsOf at h
  refine lv_iconst X.1 X.2.1 (dck_at da_X3_cellsOf 0 rfl) ki_0 ?_
  refine lv_istore_n (lv' := [(2, .int (0 : Int32)), (0, .ref (ad 2)), (1, .int a1)]) X.1 X.2.1 (dck_at da_X3_cellsOf 1 rfl) rfl hl (by decide) rfl (fun ls hl => ?_)
  refine lv_iconst X.1 X.2.1 (dck_at da_X3_cellsOf 2 rfl) ki_0 ?_
  refine lv_istore_n (lv' := [(3, .int (0 : Int32)), (2, .int (0 : Int32)), (0, .ref (ad 2)), (1, .int a1)]) X.1 X.2.1 (dck_at da_X3_cellsOf 3 rfl) rfl hl (by decide) rfl (fun ls hl => ?_)
  exact b4 F a1 (0 : Int32) (0 : Int32) s0 _ _ _ h Y (lv_sub hl [2, 3, 1, 0] rfl)
set_option maxRecDepth 100000 in
set_option maxHeartbeats 4000000 in
theorem ok_c_count {l : Launch} {D : va_G} {cy : Nat → ClassId} {ad sa : Nat → Nat} {A : Nat → Prop} {F : Nat} {a1 : Int32} {s0 : St} {ρ : Int32} {σ' : St} (h : c_count F a1 s0 = some (ρ, σ')) : gMi l shC D cy ad sa A yX11_count cX11_count 2 (some .int) 3 [.ref (ad 0), .int a1] s0 ρ σ' := by
  refine gM_of (by decide) (Nat.le_of_ble_eq_true rfl) ?_
  intro p e s m args below meth c ls X G Y hr hlk hl
  have hl : lv_has ls 2 [(0, .ref (ad 0)), (1, .int a1)] := hl
  unfold c_count at h
  refine lv_iload_n X.1 X.2.1 (dck_at da_X11_count 0 rfl) rfl (lv_at hl 1 rfl) ?_
  by_cases c0 : a1 = (0 : Int32)
  · have h := gI_pos h c0
    refine lv_tableIn (tgt := 52) (off := 51) X.1 X.2.1 (dck_at da_X11_count 1 rfl) (by rw [c0]; decide) (by rw [c0]; decide) (by rw [c0]; rfl) rfl ?_
    refine lv_aload_n X.1 X.2.1 (dck_at da_X11_count 2 rfl) rfl (lv_at hl 0 rfl) ?_
    refine gr_getR X G Y fk_RX11_12 clC_0 rfl (dck_at da_X11_count 3 rfl) ?_
    refine gr_getR X G Y fk_RX11_122 clC_1 rfl (dck_at da_X11_count 4 rfl) ?_
    obtain ⟨r1, s1, hc, h⟩ := gB2_some h
    refine gr_backi Y (gr_runV (as := []) (rest := []) X G Y (ok_c_Night_isOut hc) cv_RX11_132 clC_9 ⟨Nat.le_of_ble_eq_true rfl, Nat.le_of_ble_eq_true rfl⟩ rfl hl.1 (Nat.le_of_ble_eq_true rfl) (dck_at da_X11_count 5 rfl)) (fun H locs Y => ?_)
    refine lv_if_eq (tgt := 78) X.1 X.2.1 (dck_at da_X11_count 6 rfl) rfl (fun c => ?_) (fun c => ?_)
    · have h := gI_pos h c
      refine lv_aload_n X.1 X.2.1 (dck_at da_X11_count 12 rfl) rfl (lv_at hl 0 rfl) ?_
      refine lv_bipush X.1 X.2.1 (dck_at da_X11_count 13 rfl) kb_m4 ?_
      obtain ⟨r2, s2, hc, h⟩ := gB2_some h
      refine gr_backi Y (gr_runV (as := [.int (-4 : Int32)]) (rest := []) X G Y (ok_c_refuse hc) cv_RX11_55 clC_0 ⟨Nat.le_of_ble_eq_true rfl, Nat.le_of_ble_eq_true rfl⟩ rfl hl.1 (Nat.le_of_ble_eq_true rfl) (dck_at da_X11_count 14 rfl)) (fun H locs Y => ?_)
      exact gr_iretO X Y h hr rfl hlk (dck_at da_X11_count 15 rfl)
    · have h := gI_neg h c
      refine lv_aload_n X.1 X.2.1 (dck_at da_X11_count 7 rfl) rfl (lv_at hl 0 rfl) ?_
      refine gr_getR X G Y fk_RX11_12 clC_0 rfl (dck_at da_X11_count 8 rfl) ?_
      refine gr_getR X G Y fk_RX11_122 clC_1 rfl (dck_at da_X11_count 9 rfl) ?_
      refine gr_getI X G Y fk_RX11_136 clC_9 rfl (dck_at da_X11_count 10 rfl) ?_
      refine lv_goto (tgt := 84) X.1 X.2.1 (dck_at da_X11_count 11 rfl) rfl ?_
      exact gr_iretO X Y h hr rfl hlk (dck_at da_X11_count 15 rfl)
  have h := gI_neg h c0
  by_cases c1 : a1 = (1 : Int32)
  · have h := gI_pos h c1
    refine lv_tableIn (tgt := 85) (off := 84) X.1 X.2.1 (dck_at da_X11_count 1 rfl) (by rw [c1]; decide) (by rw [c1]; decide) (by rw [c1]; rfl) rfl ?_
    refine lv_aload_n X.1 X.2.1 (dck_at da_X11_count 16 rfl) rfl (lv_at hl 0 rfl) ?_
    refine gr_getR X G Y fk_RX11_12 clC_0 rfl (dck_at da_X11_count 17 rfl) ?_
    refine gr_getR X G Y fk_RX11_170 clC_1 rfl (dck_at da_X11_count 18 rfl) ?_
    refine gr_getI X G Y fk_RX11_174 clC_14 rfl (dck_at da_X11_count 19 rfl) ?_
    exact gr_iretO X Y h hr rfl hlk (dck_at da_X11_count 20 rfl)
  have h := gI_neg h c1
  by_cases c2 : a1 = (2 : Int32)
  · have h := gI_pos h c2
    refine lv_tableIn (tgt := 96) (off := 95) X.1 X.2.1 (dck_at da_X11_count 1 rfl) (by rw [c2]; decide) (by rw [c2]; decide) (by rw [c2]; rfl) rfl ?_
    refine lv_aload_n X.1 X.2.1 (dck_at da_X11_count 21 rfl) rfl (lv_at hl 0 rfl) ?_
    refine gr_getR X G Y fk_RX11_12 clC_0 rfl (dck_at da_X11_count 22 rfl) ?_
    refine gr_getR X G Y fk_RX11_170 clC_1 rfl (dck_at da_X11_count 23 rfl) ?_
    refine gr_getI X G Y fk_RX11_179 clC_14 rfl (dck_at da_X11_count 24 rfl) ?_
    exact gr_iretO X Y h hr rfl hlk (dck_at da_X11_count 25 rfl)
  have h := gI_neg h c2
  by_cases c3 : a1 = (3 : Int32)
  · have h := gI_pos h c3
    refine lv_tableIn (tgt := 107) (off := 106) X.1 X.2.1 (dck_at da_X11_count 1 rfl) (by rw [c3]; decide) (by rw [c3]; decide) (by rw [c3]; rfl) rfl ?_
    refine lv_aload_n X.1 X.2.1 (dck_at da_X11_count 26 rfl) rfl (lv_at hl 0 rfl) ?_
    refine gr_getR X G Y fk_RX11_12 clC_0 rfl (dck_at da_X11_count 27 rfl) ?_
    refine gr_getR X G Y fk_RX11_182 clC_1 rfl (dck_at da_X11_count 28 rfl) ?_
    refine gr_getI X G Y fk_RX11_186 clC_22 rfl (dck_at da_X11_count 29 rfl) ?_
    exact gr_iretO X Y h hr rfl hlk (dck_at da_X11_count 30 rfl)
  have h := gI_neg h c3
  by_cases c4 : a1 = (4 : Int32)
  · have h := gI_pos h c4
    refine lv_tableIn (tgt := 118) (off := 117) X.1 X.2.1 (dck_at da_X11_count 1 rfl) (by rw [c4]; decide) (by rw [c4]; decide) (by rw [c4]; rfl) rfl ?_
    refine lv_aload_n X.1 X.2.1 (dck_at da_X11_count 31 rfl) rfl (lv_at hl 0 rfl) ?_
    refine gr_getR X G Y fk_RX11_12 clC_0 rfl (dck_at da_X11_count 32 rfl) ?_
    refine gr_getR X G Y fk_RX11_189 clC_1 rfl (dck_at da_X11_count 33 rfl) ?_
    refine gr_getI X G Y fk_RX11_193 clC_28 rfl (dck_at da_X11_count 34 rfl) ?_
    exact gr_iretO X Y h hr rfl hlk (dck_at da_X11_count 35 rfl)
  have h := gI_neg h c4
  by_cases c5 : a1 = (5 : Int32)
  · have h := gI_pos h c5
    refine lv_tableIn (tgt := 129) (off := 128) X.1 X.2.1 (dck_at da_X11_count 1 rfl) (by rw [c5]; decide) (by rw [c5]; decide) (by rw [c5]; rfl) rfl ?_
    refine lv_aload_n X.1 X.2.1 (dck_at da_X11_count 36 rfl) rfl (lv_at hl 0 rfl) ?_
    refine gr_getR X G Y fk_RX11_12 clC_0 rfl (dck_at da_X11_count 37 rfl) ?_
    refine gr_getR X G Y fk_RX11_196 clC_1 rfl (dck_at da_X11_count 38 rfl) ?_
    refine gr_getI X G Y fk_RX11_200 clC_32 rfl (dck_at da_X11_count 39 rfl) ?_
    exact gr_iretO X Y h hr rfl hlk (dck_at da_X11_count 40 rfl)
  have h := gI_neg h c5
  by_cases c6 : a1 = (6 : Int32)
  · have h := gI_pos h c6
    refine lv_tableIn (tgt := 140) (off := 139) X.1 X.2.1 (dck_at da_X11_count 1 rfl) (by rw [c6]; decide) (by rw [c6]; decide) (by rw [c6]; rfl) rfl ?_
    refine lv_aload_n X.1 X.2.1 (dck_at da_X11_count 41 rfl) rfl (lv_at hl 0 rfl) ?_
    refine gr_getR X G Y fk_RX11_12 clC_0 rfl (dck_at da_X11_count 42 rfl) ?_
    refine gr_getR X G Y fk_RX11_59 clC_1 rfl (dck_at da_X11_count 43 rfl) ?_
    obtain ⟨r3, s3, hc, h⟩ := gB2_some h
    refine gr_backi Y (gr_runV (as := []) (rest := []) X G Y (ok_c_Land_searchedCells hc) cv_RX11_203 clC_2 ⟨Nat.le_of_ble_eq_true rfl, Nat.le_of_ble_eq_true rfl⟩ rfl hl.1 (Nat.le_of_ble_eq_true rfl) (dck_at da_X11_count 44 rfl)) (fun H locs Y => ?_)
    exact gr_iretO X Y h hr rfl hlk (dck_at da_X11_count 45 rfl)
  have h := gI_neg h c6
  by_cases c7 : a1 = (7 : Int32)
  · have h := gI_pos h c7
    refine lv_tableIn (tgt := 151) (off := 150) X.1 X.2.1 (dck_at da_X11_count 1 rfl) (by rw [c7]; decide) (by rw [c7]; decide) (by rw [c7]; rfl) rfl ?_
    refine lv_aload_n X.1 X.2.1 (dck_at da_X11_count 46 rfl) rfl (lv_at hl 0 rfl) ?_
    refine gr_getR X G Y fk_RX11_12 clC_0 rfl (dck_at da_X11_count 47 rfl) ?_
    refine gr_getR X G Y fk_RX11_59 clC_1 rfl (dck_at da_X11_count 48 rfl) ?_
    refine lv_bipush X.1 X.2.1 (dck_at da_X11_count 49 rfl) kb_6 ?_
    obtain ⟨r4, s4, hc, h⟩ := gB2_some h
    refine gr_backi Y (gr_runV (as := [.int (6 : Int32)]) (rest := []) X G Y (ok_c_Land_cellsOf hc) cv_RX11_206 clC_2 ⟨Nat.le_of_ble_eq_true rfl, Nat.le_of_ble_eq_true rfl⟩ rfl hl.1 (Nat.le_of_ble_eq_true rfl) (dck_at da_X11_count 50 rfl)) (fun H locs Y => ?_)
    exact gr_iretO X Y h hr rfl hlk (dck_at da_X11_count 51 rfl)
  have h := gI_neg h c7
  by_cases c8 : a1 = (8 : Int32)
  · have h := gI_pos h c8
    refine lv_tableIn (tgt := 164) (off := 163) X.1 X.2.1 (dck_at da_X11_count 1 rfl) (by rw [c8]; decide) (by rw [c8]; decide) (by rw [c8]; rfl) rfl ?_
    refine lv_aload_n X.1 X.2.1 (dck_at da_X11_count 52 rfl) rfl (lv_at hl 0 rfl) ?_
    refine gr_getR X G Y fk_RX11_12 clC_0 rfl (dck_at da_X11_count 53 rfl) ?_
    refine gr_getR X G Y fk_RX11_59 clC_1 rfl (dck_at da_X11_count 54 rfl) ?_
    refine lv_bipush X.1 X.2.1 (dck_at da_X11_count 55 rfl) kb_7 ?_
    obtain ⟨r5, s5, hc, h⟩ := gB2_some h
    refine gr_backi Y (gr_runV (as := [.int (7 : Int32)]) (rest := []) X G Y (ok_c_Land_cellsOf hc) cv_RX11_206 clC_2 ⟨Nat.le_of_ble_eq_true rfl, Nat.le_of_ble_eq_true rfl⟩ rfl hl.1 (Nat.le_of_ble_eq_true rfl) (dck_at da_X11_count 56 rfl)) (fun H locs Y => ?_)
    exact gr_iretO X Y h hr rfl hlk (dck_at da_X11_count 57 rfl)
  have h := gI_neg h c8
  refine lv_tableOut (tgt := 177) X.1 X.2.1 (dck_at da_X11_count 1 rfl) (by have t0 := lv_neT (a := 0) c0 rfl; have t1 := lv_neT (a := 1) c1 rfl; have t2 := lv_neT (a := 2) c2 rfl; have t3 := lv_neT (a := 3) c3 rfl; have t4 := lv_neT (a := 4) c4 rfl; have t5 := lv_neT (a := 5) c5 rfl; have t6 := lv_neT (a := 6) c6 rfl; have t7 := lv_neT (a := 7) c7 rfl; have t8 := lv_neT (a := 8) c8 rfl; omega) rfl ?_
  refine lv_aload_n X.1 X.2.1 (dck_at da_X11_count 58 rfl) rfl (lv_at hl 0 rfl) ?_
  refine lv_iconst X.1 X.2.1 (dck_at da_X11_count 59 rfl) ki_m1 ?_
  obtain ⟨r6, s6, hc, h⟩ := gB2_some h
  refine gr_backi Y (gr_runV (as := [.int (-1 : Int32)]) (rest := []) X G Y (ok_c_refuse hc) cv_RX11_55 clC_0 ⟨Nat.le_of_ble_eq_true rfl, Nat.le_of_ble_eq_true rfl⟩ rfl hl.1 (Nat.le_of_ble_eq_true rfl) (dck_at da_X11_count 60 rfl)) (fun H locs Y => ?_)
  exact gr_iretO X Y h hr rfl hlk (dck_at da_X11_count 61 rfl)
set_option maxRecDepth 100000 in
set_option maxHeartbeats 4000000 in
theorem ok_c_Law_sight {l : Launch} {D : va_G} {cy : Nat → ClassId} {ad sa : Nat → Nat} {A : Nat → Prop} {F : Nat} {a1 : Int32} {a2 : Int32} {a3 : Int32} {a4 : Int32} {s0 : St} {ρ : Int32} {σ' : St} (h : c_Law_sight F a1 a2 a3 a4 s0 = some (ρ, σ')) : gMi l shC D cy ad sa A yX4_sight cX4_sight 6 (some .int) 1 [.ref (ad 6), .int a1, .int a2, .int a3, .int a4] s0 ρ σ' := by
  refine gM_of (by decide) (Nat.le_of_ble_eq_true rfl) ?_
  intro p e s m args below meth c ls X G Y hr hlk hl
  have hl : lv_has ls 6 [(0, .ref (ad 6)), (1, .int a1), (2, .int a2), (3, .int a3), (4, .int a4)] := hl
  have b81 : ∀ (x5 : Int32) (s0 : St) (H : Heap) (locs : List Loc) (ls : Array Slot), c_Law_sight_J81 F  x5 s0 = some (ρ, σ') → gY shC D cy ad A s0 s H locs → lv_has ls 6 [(5, .int x5)] → W p l e (grm 1) s m args below meth c H locs 0 0 (MQ below (va_Qi (fun (q : Int32) (_ : Unit) => q = ρ) (fun _ t => va_P D vwCl (gWl shC cy ad σ') t.heap) A) args s 0 0 A) (F0 m 81 ls []) := by
    intro x5 s0 H locs ls h Y hl
    unfold c_Law_sight_J81 at h
    refine lv_iload X.1 X.2.1 (dck_at da_X4_sight 48 rfl) (lv_at hl 0 rfl) ?_
    refine lv_iconst X.1 X.2.1 (dck_at da_X4_sight 49 rfl) ki_2 ?_
    refine lv_idiv X.1 X.2.1 (dck_at da_X4_sight 50 rfl) (by decide) ?_
    refine lv_goto (tgt := 90) X.1 X.2.1 (dck_at da_X4_sight 51 rfl) rfl ?_
    exact gr_iretO X Y h hr rfl hlk (dck_at da_X4_sight 53 rfl)
  have b57 : ∀ (x1 : Int32) (x2 : Int32) (x3 : Int32) (x5 : Int32) (s0 : St) (H : Heap) (locs : List Loc) (ls : Array Slot), c_Law_sight_J57 F  x1 x2 x3 x5 s0 = some (ρ, σ') → gY shC D cy ad A s0 s H locs → lv_has ls 6 [(1, .int x1), (2, .int x2), (3, .int x3), (5, .int x5)] → W p l e (grm 1) s m args below meth c H locs 0 0 (MQ below (va_Qi (fun (q : Int32) (_ : Unit) => q = ρ) (fun _ t => va_P D vwCl (gWl shC cy ad σ') t.heap) A) args s 0 0 A) (F0 m 57 ls []) := by
    intro x1 x2 x3 x5 s0 H locs ls h Y hl
    unfold c_Law_sight_J57 at h
    refine lv_iload_n X.1 X.2.1 (dck_at da_X4_sight 33 rfl) rfl (lv_at hl 2 rfl) ?_
    refine lv_if_ne (tgt := 64) X.1 X.2.1 (dck_at da_X4_sight 34 rfl) rfl (fun c => ?_) (fun c => ?_)
    · have h := gI_neg h c
      refine lv_iload_n X.1 X.2.1 (dck_at da_X4_sight 37 rfl) rfl (lv_at hl 0 rfl) ?_
      refine lv_iconst X.1 X.2.1 (dck_at da_X4_sight 38 rfl) ki_3 ?_
      refine lv_icmp_ne (tgt := 71) X.1 X.2.1 (dck_at da_X4_sight 39 rfl) rfl (fun c => ?_) (fun c => ?_)
      · have h := gI_neg h c
        refine lv_iload_n X.1 X.2.1 (dck_at da_X4_sight 42 rfl) rfl (lv_at hl 1 rfl) ?_
        refine lv_iconst X.1 X.2.1 (dck_at da_X4_sight 43 rfl) ki_2 ?_
        refine lv_icmp_eq (tgt := 81) X.1 X.2.1 (dck_at da_X4_sight 44 rfl) rfl (fun c => ?_) (fun c => ?_)
        · have h := gI_pos h c
          exact b81 x5 s0 _ _ _ h Y (lv_sub hl [3] rfl)
        · have h := gI_neg h c
          refine lv_iload_n X.1 X.2.1 (dck_at da_X4_sight 45 rfl) rfl (lv_at hl 1 rfl) ?_
          refine lv_iconst X.1 X.2.1 (dck_at da_X4_sight 46 rfl) ki_5 ?_
          refine lv_icmp_ne (tgt := 88) X.1 X.2.1 (dck_at da_X4_sight 47 rfl) rfl (fun c => ?_) (fun c => ?_)
          · have h := gI_neg h c
            refine lv_iload X.1 X.2.1 (dck_at da_X4_sight 52 rfl) (lv_at hl 3 rfl) ?_
            exact gr_iretO X Y h hr rfl hlk (dck_at da_X4_sight 53 rfl)
          · have h := gI_pos h c
            exact b81 x5 s0 _ _ _ h Y (lv_sub hl [3] rfl)
      · have h := gI_pos h c
        refine lv_iconst X.1 X.2.1 (dck_at da_X4_sight 40 rfl) ki_0 ?_
        exact gr_iretO X Y h hr rfl hlk (dck_at da_X4_sight 41 rfl)
    · have h := gI_pos h c
      refine lv_iload X.1 X.2.1 (dck_at da_X4_sight 35 rfl) (lv_at hl 3 rfl) ?_
      exact gr_iretO X Y h hr rfl hlk (dck_at da_X4_sight 36 rfl)
  have b34 : ∀ (x1 : Int32) (x2 : Int32) (x3 : Int32) (x4 : Int32) (x5 : Int32) (s0 : St) (H : Heap) (locs : List Loc) (ls : Array Slot), c_Law_sight_J34 F  x1 x2 x3 x4 x5 s0 = some (ρ, σ') → gY shC D cy ad A s0 s H locs → lv_has ls 6 [(0, .ref (ad 6)), (1, .int x1), (2, .int x2), (3, .int x3), (4, .int x4), (5, .int x5)] → W p l e (grm 1) s m args below meth c H locs 0 0 (MQ below (va_Qi (fun (q : Int32) (_ : Unit) => q = ρ) (fun _ t => va_P D vwCl (gWl shC cy ad σ') t.heap) A) args s 0 0 A) (F0 m 34 ls []) := by
    intro x1 x2 x3 x4 x5 s0 H locs ls h Y hl
    unfold c_Law_sight_J34 at h
    refine lv_iload_n X.1 X.2.1 (dck_at da_X4_sight 20 rfl) rfl (lv_at hl 1 rfl) ?_
    refine lv_iconst X.1 X.2.1 (dck_at da_X4_sight 21 rfl) ki_1 ?_
    refine lv_icmp_ne (tgt := 57) X.1 X.2.1 (dck_at da_X4_sight 22 rfl) rfl (fun c => ?_) (fun c => ?_)
    · have h := gI_neg h c
      exact b57 x1 x2 x3 x5 s0 _ _ _ h Y (lv_sub hl [1, 2, 3, 5] rfl)
    · have h := gI_pos h c
      refine lv_iload X.1 X.2.1 (dck_at da_X4_sight 23 rfl) (lv_at hl 4 rfl) ?_
      refine lv_aload_n X.1 X.2.1 (dck_at da_X4_sight 24 rfl) rfl (lv_at hl 0 rfl) ?_
      refine gr_getR X G Y fk_RX4_9 clC_6 rfl (dck_at da_X4_sight 25 rfl) ?_
      refine lv_bipush X.1 X.2.1 (dck_at da_X4_sight 26 rfl) kb_9 ?_
      obtain ⟨hin, h⟩ := gI_if h
      refine gr_iald X G Y clC_7 hin (dck_at da_X4_sight 27 rfl) ?_
      refine lv_icmp_lt (tgt := 57) X.1 X.2.1 (dck_at da_X4_sight 28 rfl) rfl (fun c => ?_) (fun c => ?_)
      · have h := gI_pos h c
        exact b57 x1 x2 x3 x5 s0 _ _ _ h Y (lv_sub hl [1, 2, 3, 5] rfl)
      · have h := gI_neg h c
        refine lv_iload X.1 X.2.1 (dck_at da_X4_sight 29 rfl) (lv_at hl 5 rfl) ?_
        refine lv_iconst X.1 X.2.1 (dck_at da_X4_sight 30 rfl) ki_2 ?_
        refine lv_idiv X.1 X.2.1 (dck_at da_X4_sight 31 rfl) (by decide) ?_
        refine lv_istore (lv' := [(5, .int (x5 / (2 : Int32))), (0, .ref (ad 6)), (1, .int x1), (2, .int x2), (3, .int x3), (4, .int x4)]) X.1 X.2.1 (dck_at da_X4_sight 32 rfl) hl (by decide) rfl (fun ls hl => ?_)
        exact b57 x1 x2 x3 (x5 / (2 : Int32)) s0 _ _ _ h Y (lv_sub hl [2, 3, 4, 0] rfl)
  unfold c_Law_sight at h
  refine gr_getS0 X G Y wm_706 (dck_at da_X4_sight 0 rfl) ?_
  refine lv_iload_n X.1 X.2.1 (dck_at da_X4_sight 1 rfl) rfl (lv_at hl 1 rfl) ?_
  refine lv_bipush X.1 X.2.1 (dck_at da_X4_sight 2 rfl) kb_8 ?_
  refine lv_imul X.1 X.2.1 (dck_at da_X4_sight 3 rfl) ?_
  refine lv_iload_n X.1 X.2.1 (dck_at da_X4_sight 4 rfl) rfl (lv_at hl 2 rfl) ?_
  refine lv_iadd X.1 X.2.1 (dck_at da_X4_sight 5 rfl) ?_
  obtain ⟨hin, h⟩ := gI_if h
  refine gr_tald0 X G Y hin (dck_at da_X4_sight 6 rfl) ?_
  refine lv_istore (lv' := [(5, .int (gSights ((a1 * (8 : Int32)) + a2).toNatClampNeg)), (0, .ref (ad 6)), (1, .int a1), (2, .int a2), (3, .int a3), (4, .int a4)]) X.1 X.2.1 (dck_at da_X4_sight 7 rfl) hl (by decide) rfl (fun ls hl => ?_)
  refine lv_iload_n X.1 X.2.1 (dck_at da_X4_sight 8 rfl) rfl (lv_at hl 2 rfl) ?_
  refine lv_if_ne (tgt := 34) X.1 X.2.1 (dck_at da_X4_sight 9 rfl) rfl (fun c => ?_) (fun c => ?_)
  · have h := gI_neg h c
    exact b34 a1 a2 a3 a4 (gSights ((a1 * (8 : Int32)) + a2).toNatClampNeg) s0 _ _ _ h Y (lv_sub hl [1, 2, 3, 4, 5, 0] rfl)
  · have h := gI_pos h c
    refine lv_iload X.1 X.2.1 (dck_at da_X4_sight 10 rfl) (lv_at hl 5 rfl) ?_
    refine lv_aload_n X.1 X.2.1 (dck_at da_X4_sight 11 rfl) rfl (lv_at hl 1 rfl) ?_
    refine gr_getR X G Y fk_RX4_9 clC_6 rfl (dck_at da_X4_sight 12 rfl) ?_
    refine lv_bipush X.1 X.2.1 (dck_at da_X4_sight 13 rfl) kb_8 ?_
    obtain ⟨hin, h⟩ := gI_if h
    refine gr_iald X G Y clC_7 hin (dck_at da_X4_sight 14 rfl) ?_
    refine lv_icmp_lt (tgt := 34) X.1 X.2.1 (dck_at da_X4_sight 15 rfl) rfl (fun c => ?_) (fun c => ?_)
    · have h := gI_pos h c
      exact b34 a1 a2 a3 a4 (gSights ((a1 * (8 : Int32)) + a2).toNatClampNeg) s0 _ _ _ h Y (lv_sub hl [1, 2, 3, 4, 5, 0] rfl)
    · have h := gI_neg h c
      refine lv_iload X.1 X.2.1 (dck_at da_X4_sight 16 rfl) (lv_at hl 0 rfl) ?_
      refine lv_iconst X.1 X.2.1 (dck_at da_X4_sight 17 rfl) ki_2 ?_
      refine lv_idiv X.1 X.2.1 (dck_at da_X4_sight 18 rfl) (by decide) ?_
      refine lv_istore (lv' := [(5, .int ((gSights ((a1 * (8 : Int32)) + a2).toNatClampNeg) / (2 : Int32))), (0, .ref (ad 6)), (1, .int a1), (2, .int a2), (3, .int a3), (4, .int a4)]) X.1 X.2.1 (dck_at da_X4_sight 19 rfl) hl (by decide) rfl (fun ls hl => ?_)
      exact b34 a1 a2 a3 a4 ((gSights ((a1 * (8 : Int32)) + a2).toNatClampNeg) / (2 : Int32)) s0 _ _ _ h Y (lv_sub hl [1, 2, 3, 4, 5, 0] rfl)
set_option maxRecDepth 100000 in
set_option maxHeartbeats 4000000 in
theorem ok_c_isSort {l : Launch} {D : va_G} {cy : Nat → ClassId} {ad sa : Nat → Nat} {A : Nat → Prop} {F : Nat} {a0 : Int32} {s0 : St} {ρ : Int32} {σ' : St} (h : c_isSort F a0 s0 = some (ρ, σ')) : gMi l shC D cy ad sa A yX11_isSort cX11_isSort 1 (some .boolean) 2 [.int a0] s0 ρ σ' := by
  refine gM_of (by decide) (Nat.le_of_ble_eq_true rfl) ?_
  intro p e s m args below meth c ls X G Y hr hlk hl
  have hl : lv_has ls 1 [(0, .int a0)] := hl
  unfold c_isSort at h
  refine lv_iload_n X.1 X.2.1 (dck_at da_X11_isSort 0 rfl) rfl (lv_at hl 0 rfl) ?_
  refine lv_iconst X.1 X.2.1 (dck_at da_X11_isSort 1 rfl) ki_0 ?_
  refine lv_iconst X.1 X.2.1 (dck_at da_X11_isSort 2 rfl) ki_3 ?_
  obtain ⟨r1, s1, hc, h⟩ := gB2_some h
  refine gr_backi Y (gr_runS (as := [.int a0, .int (0 : Int32), .int (3 : Int32)]) (rest := []) X G Y (ok_c_isIn hc) cs_RX11_68 ⟨Nat.le_of_ble_eq_true rfl, Nat.le_of_ble_eq_true rfl⟩ rfl hl.1 (Nat.le_of_ble_eq_true rfl) (dck_at da_X11_isSort 3 rfl)) (fun H locs Y => ?_)
  obtain ⟨hz, h⟩ := gI_if h
  exact gr_iretO X Y h hr (gz_nar hz) hlk (dck_at da_X11_isSort 4 rfl)
set_option maxRecDepth 100000 in
set_option maxHeartbeats 4000000 in
theorem ok_c_sees {l : Launch} {D : va_G} {cy : Nat → ClassId} {ad sa : Nat → Nat} {A : Nat → Prop} {F : Nat} {a1 : Int32} {a2 : Int32} {a3 : Int32} {s0 : St} {ρ : Int32} {σ' : St} (h : c_sees F a1 a2 a3 s0 = some (ρ, σ')) : gMi l shC D cy ad sa A yX11_sees cX11_sees 4 (some .int) 3 [.ref (ad 0), .int a1, .int a2, .int a3] s0 ρ σ' := by
  refine gM_of (by decide) (Nat.le_of_ble_eq_true rfl) ?_
  intro p e s m args below meth c ls X G Y hr hlk hl
  have hl : lv_has ls 4 [(0, .ref (ad 0)), (1, .int a1), (2, .int a2), (3, .int a3)] := hl
  have b23 : ∀  (s0 : St) (H : Heap) (locs : List Loc) (ls : Array Slot), c_sees_J23 F  s0 = some (ρ, σ') → gY shC D cy ad A s0 s H locs → lv_has ls 4 [(0, .ref (ad 0))] → W p l e (grm 3) s m args below meth c H locs 0 0 (MQ below (va_Qi (fun (q : Int32) (_ : Unit) => q = ρ) (fun _ t => va_P D vwCl (gWl shC cy ad σ') t.heap) A) args s 0 0 A) (F0 m 23 ls []) := by
    intro s0 H locs ls h Y hl
    unfold c_sees_J23 at h
    refine lv_aload_n X.1 X.2.1 (dck_at da_X11_sees 11 rfl) rfl (lv_at hl 0 rfl) ?_
    refine lv_iconst X.1 X.2.1 (dck_at da_X11_sees 12 rfl) ki_m1 ?_
    obtain ⟨r1, s1, hc, h⟩ := gB2_some h
    refine gr_backi Y (gr_runV (as := [.int (-1 : Int32)]) (rest := []) X G Y (ok_c_refuse hc) cv_RX11_55 clC_0 ⟨Nat.le_of_ble_eq_true rfl, Nat.le_of_ble_eq_true rfl⟩ rfl hl.1 (Nat.le_of_ble_eq_true rfl) (dck_at da_X11_sees 13 rfl)) (fun H locs Y => ?_)
    exact gr_iretO X Y h hr rfl hlk (dck_at da_X11_sees 14 rfl)
  have b79 : ∀ (y1 : Int32) (y2 : Int32) (y3 : Int32) (s0 : St) (H : Heap) (locs : List Loc) (ls : Array Slot), c_sees_J79 F  y1 y2 y3 s0 = some (ρ, σ') → gY shC D cy ad A s0 s H locs → lv_has ls 4 [(0, .ref (ad 0))] → W p l e (grm 3) s m args below meth c H locs 0 0 (MQ below (va_Qi (fun (q : Int32) (_ : Unit) => q = ρ) (fun _ t => va_P D vwCl (gWl shC cy ad σ') t.heap) A) args s 0 0 A) (F0 m 79 ls [.int y3, .int y2, .int y1, .ref (ad 6)]) := by
    intro y1 y2 y3 s0 H locs ls h Y hl
    unfold c_sees_J79 at h
    refine lv_aload_n X.1 X.2.1 (dck_at da_X11_sees 40 rfl) rfl (lv_at hl 0 rfl) ?_
    refine gr_getR X G Y fk_RX11_12 clC_0 rfl (dck_at da_X11_sees 41 rfl) ?_
    refine gr_getR X G Y fk_RX11_122 clC_1 rfl (dck_at da_X11_sees 42 rfl) ?_
    refine gr_getI X G Y fk_RX11_136 clC_9 rfl (dck_at da_X11_sees 43 rfl) ?_
    obtain ⟨r2, s2, hc, h⟩ := gB2_some h
    refine gr_backi Y (gr_runV (as := [.int y1, .int y2, .int y3, .int (s0.1 9 4)]) (rest := []) X G Y (ok_c_Law_sight hc) cv_RX11_212 clC_6 ⟨Nat.le_of_ble_eq_true rfl, Nat.le_of_ble_eq_true rfl⟩ rfl hl.1 (Nat.le_of_ble_eq_true rfl) (dck_at da_X11_sees 44 rfl)) (fun H locs Y => ?_)
    exact gr_iretO X Y h hr rfl hlk (dck_at da_X11_sees 45 rfl)
  unfold c_sees at h
  refine lv_iload_n X.1 X.2.1 (dck_at da_X11_sees 0 rfl) rfl (lv_at hl 1 rfl) ?_
  obtain ⟨r3, s3, hc, h⟩ := gB2_some h
  refine gr_backi Y (gr_runS (as := [.int a1]) (rest := []) X G Y (ok_c_isSort hc) cs_RX11_209 ⟨Nat.le_of_ble_eq_true rfl, Nat.le_of_ble_eq_true rfl⟩ rfl hl.1 (Nat.le_of_ble_eq_true rfl) (dck_at da_X11_sees 1 rfl)) (fun H locs Y => ?_)
  refine lv_if_eq (tgt := 23) X.1 X.2.1 (dck_at da_X11_sees 2 rfl) rfl (fun c => ?_) (fun c => ?_)
  · have h := gI_pos h c
    exact b23 s3 _ _ _ h Y (lv_sub hl [0] rfl)
  · have h := gI_neg h c
    refine lv_iload_n X.1 X.2.1 (dck_at da_X11_sees 3 rfl) rfl (lv_at hl 2 rfl) ?_
    obtain ⟨r4, s4, hc, h⟩ := gB2_some h
    refine gr_backi Y (gr_runS (as := [.int a2]) (rest := []) X G Y (ok_c_isCell hc) cs_RX11_48 ⟨Nat.le_of_ble_eq_true rfl, Nat.le_of_ble_eq_true rfl⟩ rfl hl.1 (Nat.le_of_ble_eq_true rfl) (dck_at da_X11_sees 4 rfl)) (fun H locs Y => ?_)
    refine lv_if_eq (tgt := 23) X.1 X.2.1 (dck_at da_X11_sees 5 rfl) rfl (fun c => ?_) (fun c => ?_)
    · have h := gI_pos h c
      exact b23 s4 _ _ _ h Y (lv_sub hl [0] rfl)
    · have h := gI_neg h c
      refine lv_iload_n X.1 X.2.1 (dck_at da_X11_sees 6 rfl) rfl (lv_at hl 3 rfl) ?_
      refine lv_iconst X.1 X.2.1 (dck_at da_X11_sees 7 rfl) ki_0 ?_
      refine lv_iconst X.1 X.2.1 (dck_at da_X11_sees 8 rfl) ki_1 ?_
      obtain ⟨r5, s5, hc, h⟩ := gB2_some h
      refine gr_backi Y (gr_runS (as := [.int a3, .int (0 : Int32), .int (1 : Int32)]) (rest := []) X G Y (ok_c_isIn hc) cs_RX11_68 ⟨Nat.le_of_ble_eq_true rfl, Nat.le_of_ble_eq_true rfl⟩ rfl hl.1 (Nat.le_of_ble_eq_true rfl) (dck_at da_X11_sees 9 rfl)) (fun H locs Y => ?_)
      refine lv_if_ne (tgt := 29) X.1 X.2.1 (dck_at da_X11_sees 10 rfl) rfl (fun c => ?_) (fun c => ?_)
      · have h := gI_neg h c
        refine lv_aload_n X.1 X.2.1 (dck_at da_X11_sees 15 rfl) rfl (lv_at hl 0 rfl) ?_
        refine gr_getR X G Y fk_RX11_12 clC_0 rfl (dck_at da_X11_sees 16 rfl) ?_
        refine gr_getR X G Y fk_RX11_122 clC_1 rfl (dck_at da_X11_sees 17 rfl) ?_
        obtain ⟨r6, s6, hc, h⟩ := gB2_some h
        refine gr_backi Y (gr_runV (as := []) (rest := []) X G Y (ok_c_Night_isOut hc) cv_RX11_132 clC_9 ⟨Nat.le_of_ble_eq_true rfl, Nat.le_of_ble_eq_true rfl⟩ rfl hl.1 (Nat.le_of_ble_eq_true rfl) (dck_at da_X11_sees 18 rfl)) (fun H locs Y => ?_)
        refine lv_if_ne (tgt := 49) X.1 X.2.1 (dck_at da_X11_sees 19 rfl) rfl (fun c => ?_) (fun c => ?_)
        · have h := gI_neg h c
          refine lv_aload_n X.1 X.2.1 (dck_at da_X11_sees 24 rfl) rfl (lv_at hl 0 rfl) ?_
          refine gr_getR X G Y fk_RX11_12 clC_0 rfl (dck_at da_X11_sees 25 rfl) ?_
          refine gr_getR X G Y fk_RX11_83 clC_1 rfl (dck_at da_X11_sees 26 rfl) ?_
          refine lv_iload_n X.1 X.2.1 (dck_at da_X11_sees 27 rfl) rfl (lv_at hl 1 rfl) ?_
          refine lv_aload_n X.1 X.2.1 (dck_at da_X11_sees 28 rfl) rfl (lv_at hl 0 rfl) ?_
          refine gr_getR X G Y fk_RX11_12 clC_0 rfl (dck_at da_X11_sees 29 rfl) ?_
          refine gr_getR X G Y fk_RX11_59 clC_1 rfl (dck_at da_X11_sees 30 rfl) ?_
          refine gr_getR X G Y fk_RX11_63 clC_2 rfl (dck_at da_X11_sees 31 rfl) ?_
          refine lv_iload_n X.1 X.2.1 (dck_at da_X11_sees 32 rfl) rfl (lv_at hl 2 rfl) ?_
          obtain ⟨hin, h⟩ := gI_if h
          refine gr_iald X G Y clC_3 hin (dck_at da_X11_sees 33 rfl) ?_
          refine lv_iload_n X.1 X.2.1 (dck_at da_X11_sees 34 rfl) rfl (lv_at hl 3 rfl) ?_
          refine lv_iconst X.1 X.2.1 (dck_at da_X11_sees 35 rfl) ki_1 ?_
          refine lv_icmp_ne (tgt := 78) X.1 X.2.1 (dck_at da_X11_sees 36 rfl) rfl (fun c => ?_) (fun c => ?_)
          · have h := gI_neg h c
            refine lv_iconst X.1 X.2.1 (dck_at da_X11_sees 39 rfl) ki_0 ?_
            exact b79 a1 (s6.1 3 (a2).toNatClampNeg) (0 : Int32) s6 _ _ _ h Y (lv_sub hl [0] rfl)
          · have h := gI_pos h c
            refine lv_iconst X.1 X.2.1 (dck_at da_X11_sees 37 rfl) ki_1 ?_
            refine lv_goto (tgt := 79) X.1 X.2.1 (dck_at da_X11_sees 38 rfl) rfl ?_
            exact b79 a1 (s6.1 3 (a2).toNatClampNeg) (1 : Int32) s6 _ _ _ h Y (lv_sub hl [0] rfl)
        · have h := gI_pos h c
          refine lv_aload_n X.1 X.2.1 (dck_at da_X11_sees 20 rfl) rfl (lv_at hl 0 rfl) ?_
          refine lv_bipush X.1 X.2.1 (dck_at da_X11_sees 21 rfl) kb_m2 ?_
          obtain ⟨r7, s7, hc, h⟩ := gB2_some h
          refine gr_backi Y (gr_runV (as := [.int (-2 : Int32)]) (rest := []) X G Y (ok_c_refuse hc) cv_RX11_55 clC_0 ⟨Nat.le_of_ble_eq_true rfl, Nat.le_of_ble_eq_true rfl⟩ rfl hl.1 (Nat.le_of_ble_eq_true rfl) (dck_at da_X11_sees 22 rfl)) (fun H locs Y => ?_)
          exact gr_iretO X Y h hr rfl hlk (dck_at da_X11_sees 23 rfl)
      · have h := gI_pos h c
        exact b23 s5 _ _ _ h Y (lv_sub hl [0] rfl)
set_option maxRecDepth 100000 in
set_option maxHeartbeats 4000000 in
theorem ok_c_Night_seen {l : Launch} {D : va_G} {cy : Nat → ClassId} {ad sa : Nat → Nat} {A : Nat → Prop} {F : Nat} {a1 : Int32} {a2 : Int32} {a3 : Int32} {s0 : St} {ρ : Int64} {σ' : St} (h : c_Night_seen F a1 a2 a3 s0 = some (ρ, σ')) : gMl l shC D cy ad sa A yX6_seen cX6_seen 7 (some .long) 1 [.ref (ad 9), .int a1, .int a2, .int a3] s0 ρ σ' := by
  refine gM_of (by decide) (Nat.le_of_ble_eq_true rfl) ?_
  intro p e s m args below meth c ls X G Y hr hlk hl
  have hl : lv_has ls 7 [(0, .ref (ad 9)), (1, .int a1), (2, .int a2), (3, .int a3)] := hl
  have b18 : ∀ n : Nat, ∀ (x1 : Int32) (x2 : Int32) (x4 : Int64) (x6 : Int32) (s0 : St) (H : Heap) (locs : List Loc) (ls : Array Slot), c_Night_seen_L18 F  n x1 x2 x4 x6 s0 = some (ρ, σ') → gY shC D cy ad A s0 s H locs → lv_has ls 7 [(0, .ref (ad 9)), (1, .int x1), (2, .int x2), (4, .long x4), (6, .int x6)] → W p l e (grm 1) s m args below meth c H locs 0 0 (MQ below (va_Ql (fun (q : Int64) (_ : Unit) => q = ρ) (fun _ t => va_P D vwCl (gWl shC cy ad σ') t.heap) A) args s 0 0 A) (F0 m 18 ls []) := by
    intro n
    induction n with
    | zero => intro x1 x2 x4 x6 s0 H locs ls h Y hl; exact (gnone h).elim
    | succ n hk18 =>
      have e : c_Night_seen_L18 F  (n + 1) = c_Night_seen_L18b F  (c_Night_seen_L18 F  n) := rfl
      rw [e]; clear e
      generalize c_Night_seen_L18 F  n = k18 at hk18 ⊢
      intro x1 x2 x4 x6 s0 H locs ls h Y hl
      unfold c_Night_seen_L18b at h
      refine lv_iload X.1 X.2.1 (dck_at da_X6_seen 12 rfl) (lv_at hl 4 rfl) ?_
      refine lv_iconst X.1 X.2.1 (dck_at da_X6_seen 13 rfl) ki_4 ?_
      refine lv_icmp_ge (tgt := 53) X.1 X.2.1 (dck_at da_X6_seen 14 rfl) rfl (fun c => ?_) (fun c => ?_)
      · have h := gI_pos h c
        refine lv_lload X.1 X.2.1 (dck_at da_X6_seen 33 rfl) (lv_at hl 3 rfl) ?_
        exact gr_lretO X Y h hr hlk (dck_at da_X6_seen 34 rfl)
      · have h := gI_neg h c
        refine lv_lload X.1 X.2.1 (dck_at da_X6_seen 15 rfl) (lv_at hl 3 rfl) ?_
        refine lv_aload_n X.1 X.2.1 (dck_at da_X6_seen 16 rfl) rfl (lv_at hl 0 rfl) ?_
        refine gr_getR X G Y fk_RX6_9 clC_9 rfl (dck_at da_X6_seen 17 rfl) ?_
        refine lv_iload_n X.1 X.2.1 (dck_at da_X6_seen 18 rfl) rfl (lv_at hl 1 rfl) ?_
        refine lv_iconst X.1 X.2.1 (dck_at da_X6_seen 19 rfl) ki_4 ?_
        refine lv_imul X.1 X.2.1 (dck_at da_X6_seen 20 rfl) ?_
        refine lv_iload X.1 X.2.1 (dck_at da_X6_seen 21 rfl) (lv_at hl 4 rfl) ?_
        refine lv_iadd X.1 X.2.1 (dck_at da_X6_seen 22 rfl) ?_
        obtain ⟨hin, h⟩ := gI_if h
        refine gr_lald X G Y clC_10 hin (dck_at da_X6_seen 23 rfl) ?_
        refine lv_iload_n X.1 X.2.1 (dck_at da_X6_seen 24 rfl) rfl (lv_at hl 2 rfl) ?_
        refine lv_i2l (v := (x2).toInt64) X.1 X.2.1 (dck_at da_X6_seen 25 rfl) rfl ?_
        refine lv_lmul X.1 X.2.1 (dck_at da_X6_seen 26 rfl) ?_
        refine lv_ldc2 X.1 X.2.1 X.2.2.2.1 (X.2.2.2.2 _ wm_725) (dck_at da_X6_seen 27 rfl) ?_
        refine lv_ldiv X.1 X.2.1 (dck_at da_X6_seen 28 rfl) (by decide) ?_
        refine lv_ladd X.1 X.2.1 (dck_at da_X6_seen 29 rfl) ?_
        refine lv_lstore (lv' := [(4, .long (x4 + (((s0.2 10 ((x1 * (4 : Int32)) + x6).toNatClampNeg) * ((x2).toInt64)) / (16 : Int64)))), (0, .ref (ad 9)), (1, .int x1), (2, .int x2), (6, .int x6)]) X.1 X.2.1 (dck_at da_X6_seen 30 rfl) hl (by decide) rfl (fun ls hl => ?_)
        refine lv_iinc (v := x6 + (1 : Int32)) (lv' := [(6, .int (x6 + (1 : Int32))), (4, .long (x4 + (((s0.2 10 ((x1 * (4 : Int32)) + x6).toNatClampNeg) * ((x2).toInt64)) / (16 : Int64)))), (0, .ref (ad 9)), (1, .int x1), (2, .int x2)]) X.1 X.2.1 (dck_at da_X6_seen 31 rfl) hl (k := 4) rfl (congrArg (HAdd.hAdd _) ki_1) (by decide) rfl (fun ls hl => ?_)
        refine lv_goto (tgt := 18) X.1 X.2.1 (dck_at da_X6_seen 32 rfl) rfl ?_
        exact hk18 x1 x2 (x4 + (((s0.2 10 ((x1 * (4 : Int32)) + x6).toNatClampNeg) * ((x2).toInt64)) / (16 : Int64))) (x6 + (1 : Int32)) s0 _ _ _ h Y (lv_sub hl [2, 3, 4, 1, 0] rfl)
  unfold c_Night_seen at h
  refine lv_aload_n X.1 X.2.1 (dck_at da_X6_seen 0 rfl) rfl (lv_at hl 0 rfl) ?_
  refine gr_getR X G Y fk_RX6_15 clC_9 rfl (dck_at da_X6_seen 1 rfl) ?_
  refine lv_iload_n X.1 X.2.1 (dck_at da_X6_seen 2 rfl) rfl (lv_at hl 1 rfl) ?_
  obtain ⟨hin, h⟩ := gI_if h
  refine gr_lald X G Y clC_11 hin (dck_at da_X6_seen 3 rfl) ?_
  refine lv_iload_n X.1 X.2.1 (dck_at da_X6_seen 4 rfl) rfl (lv_at hl 3 rfl) ?_
  refine lv_i2l (v := (a3).toInt64) X.1 X.2.1 (dck_at da_X6_seen 5 rfl) rfl ?_
  refine lv_lmul X.1 X.2.1 (dck_at da_X6_seen 6 rfl) ?_
  refine lv_ldc2 X.1 X.2.1 X.2.2.2.1 (X.2.2.2.2 _ wm_725) (dck_at da_X6_seen 7 rfl) ?_
  refine lv_ldiv X.1 X.2.1 (dck_at da_X6_seen 8 rfl) (by decide) ?_
  refine lv_lstore (lv' := [(4, .long (((s0.2 11 (a1).toNatClampNeg) * ((a3).toInt64)) / (16 : Int64))), (0, .ref (ad 9)), (1, .int a1), (2, .int a2), (3, .int a3)]) X.1 X.2.1 (dck_at da_X6_seen 9 rfl) hl (by decide) rfl (fun ls hl => ?_)
  refine lv_iconst X.1 X.2.1 (dck_at da_X6_seen 10 rfl) ki_0 ?_
  refine lv_istore (lv' := [(6, .int (0 : Int32)), (4, .long (((s0.2 11 (a1).toNatClampNeg) * ((a3).toInt64)) / (16 : Int64))), (0, .ref (ad 9)), (1, .int a1), (2, .int a2), (3, .int a3)]) X.1 X.2.1 (dck_at da_X6_seen 11 rfl) hl (by decide) rfl (fun ls hl => ?_)
  exact b18 F a1 a2 (((s0.2 11 (a1).toNatClampNeg) * ((a3).toInt64)) / (16 : Int64)) (0 : Int32) s0 _ _ _ h Y (lv_sub hl [2, 3, 4, 1, 0] rfl)
set_option maxRecDepth 100000 in
set_option maxHeartbeats 4000000 in
theorem ok_c_State_seen {l : Launch} {D : va_G} {cy : Nat → ClassId} {ad sa : Nat → Nat} {A : Nat → Prop} {F : Nat} {a1 : Int32} {a2 : Int32} {a3 : Int32} {s0 : St} {ρ : Int64} {σ' : St} (h : c_State_seen F a1 a2 a3 s0 = some (ρ, σ')) : gMl l shC D cy ad sa A yX8_seen cX8_seen 5 (some .long) 2 [.ref (ad 1), .int a1, .int a2, .int a3] s0 ρ σ' := by
  refine gM_of (by decide) (Nat.le_of_ble_eq_true rfl) ?_
  intro p e s m args below meth c ls X G Y hr hlk hl
  have hl : lv_has ls 5 [(0, .ref (ad 1)), (1, .int a1), (2, .int a2), (3, .int a3)] := hl
  unfold c_State_seen at h
  refine lv_aload_n X.1 X.2.1 (dck_at da_X8_seen 0 rfl) rfl (lv_at hl 0 rfl) ?_
  refine gr_getR X G Y fk_RX8_12 clC_1 rfl (dck_at da_X8_seen 1 rfl) ?_
  refine gr_getR X G Y fk_RX8_82 clC_2 rfl (dck_at da_X8_seen 2 rfl) ?_
  refine lv_iload_n X.1 X.2.1 (dck_at da_X8_seen 3 rfl) rfl (lv_at hl 2 rfl) ?_
  obtain ⟨hin, h⟩ := gI_if h
  refine gr_iald X G Y clC_3 hin (dck_at da_X8_seen 4 rfl) ?_
  refine lv_istore (lv' := [(4, .int (s0.1 3 (a2).toNatClampNeg)), (0, .ref (ad 1)), (1, .int a1), (2, .int a2), (3, .int a3)]) X.1 X.2.1 (dck_at da_X8_seen 5 rfl) hl (by decide) rfl (fun ls hl => ?_)
  refine lv_aload_n X.1 X.2.1 (dck_at da_X8_seen 6 rfl) rfl (lv_at hl 1 rfl) ?_
  refine gr_getR X G Y fk_RX8_28 clC_1 rfl (dck_at da_X8_seen 7 rfl) ?_
  refine lv_iload_n X.1 X.2.1 (dck_at da_X8_seen 8 rfl) rfl (lv_at hl 3 rfl) ?_
  refine lv_aload_n X.1 X.2.1 (dck_at da_X8_seen 9 rfl) rfl (lv_at hl 1 rfl) ?_
  refine gr_getR X G Y fk_RX8_21 clC_1 rfl (dck_at da_X8_seen 10 rfl) ?_
  refine lv_iload_n X.1 X.2.1 (dck_at da_X8_seen 11 rfl) rfl (lv_at hl 2 rfl) ?_
  refine lv_iload X.1 X.2.1 (dck_at da_X8_seen 12 rfl) (lv_at hl 0 rfl) ?_
  refine lv_iconst X.1 X.2.1 (dck_at da_X8_seen 13 rfl) ki_0 ?_
  refine lv_iload_n X.1 X.2.1 (dck_at da_X8_seen 14 rfl) rfl (lv_at hl 4 rfl) ?_
  obtain ⟨r1, s1, hc, h⟩ := gB2_some h
  refine gr_backi Y (gr_runV (as := [.int a1, .int (s0.1 3 (a2).toNatClampNeg), .int (0 : Int32), .int a3]) (rest := [.int a2, .ref (ad 9)]) X G Y (ok_c_Law_sight hc) cv_RX8_86 clC_6 ⟨Nat.le_of_ble_eq_true rfl, Nat.le_of_ble_eq_true rfl⟩ rfl hl.1 (Nat.le_of_ble_eq_true rfl) (dck_at da_X8_seen 15 rfl)) (fun H locs Y => ?_)
  refine lv_aload_n X.1 X.2.1 (dck_at da_X8_seen 16 rfl) rfl (lv_at hl 1 rfl) ?_
  refine gr_getR X G Y fk_RX8_21 clC_1 rfl (dck_at da_X8_seen 17 rfl) ?_
  refine lv_iload_n X.1 X.2.1 (dck_at da_X8_seen 18 rfl) rfl (lv_at hl 2 rfl) ?_
  refine lv_iload X.1 X.2.1 (dck_at da_X8_seen 19 rfl) (lv_at hl 0 rfl) ?_
  refine lv_iconst X.1 X.2.1 (dck_at da_X8_seen 20 rfl) ki_1 ?_
  refine lv_iload_n X.1 X.2.1 (dck_at da_X8_seen 21 rfl) rfl (lv_at hl 4 rfl) ?_
  obtain ⟨r2, s2, hc, h⟩ := gB2_some h
  refine gr_backi Y (gr_runV (as := [.int a1, .int (s0.1 3 (a2).toNatClampNeg), .int (1 : Int32), .int a3]) (rest := [.int r1, .int a2, .ref (ad 9)]) X G Y (ok_c_Law_sight hc) cv_RX8_86 clC_6 ⟨Nat.le_of_ble_eq_true rfl, Nat.le_of_ble_eq_true rfl⟩ rfl hl.1 (Nat.le_of_ble_eq_true rfl) (dck_at da_X8_seen 22 rfl)) (fun H locs Y => ?_)
  obtain ⟨r3, s3, hc, h⟩ := gB2_some h
  refine gr_backl Y (gr_runV (as := [.int a2, .int r1, .int r2]) (rest := []) X G Y (ok_c_Night_seen hc) cv_RX8_90 clC_9 ⟨Nat.le_of_ble_eq_true rfl, Nat.le_of_ble_eq_true rfl⟩ rfl hl.1 (Nat.le_of_ble_eq_true rfl) (dck_at da_X8_seen 23 rfl)) (fun H locs Y => ?_)
  exact gr_lretO X Y h hr hlk (dck_at da_X8_seen 24 rfl)
set_option maxRecDepth 100000 in
set_option maxHeartbeats 4000000 in
theorem ok_c_Night_lose {l : Launch} {D : va_G} {cy : Nat → ClassId} {ad sa : Nat → Nat} {A : Nat → Prop} {F : Nat} {a1 : Int32} {a2 : Int32} {a3 : Int32} {s0 : St} {σ' : St} (h : c_Night_lose F a1 a2 a3 s0 = some σ') : gMv l shC D cy ad sa A yX6_lose cX6_lose 6 none 1 [.ref (ad 9), .int a1, .int a2, .int a3] s0 σ' := by
  refine gM_of (by decide) (Nat.le_of_ble_eq_true rfl) ?_
  intro p e s m args below meth c ls X G Y hr hlk hl
  have hl : lv_has ls 6 [(0, .ref (ad 9)), (1, .int a1), (2, .int a2), (3, .int a3)] := hl
  have b25 : ∀ n : Nat, ∀ (x1 : Int32) (x2 : Int32) (x4 : Int32) (s0 : St) (H : Heap) (locs : List Loc) (ls : Array Slot), c_Night_lose_L25 F  n x1 x2 x4 s0 = some σ' → gY shC D cy ad A s0 s H locs → lv_has ls 6 [(0, .ref (ad 9)), (1, .int x1), (2, .int x2), (4, .int x4)] → W p l e (grm 1) s m args below meth c H locs 0 0 (MQ below (va_Qv (fun (_ : Unit) => True) (fun _ t => va_P D vwCl (gWl shC cy ad σ') t.heap) A) args s 0 0 A) (F0 m 25 ls []) := by
    intro n
    induction n with
    | zero => intro x1 x2 x4 s0 H locs ls h Y hl; exact (gnone h).elim
    | succ n hk25 =>
      have e : c_Night_lose_L25 F  (n + 1) = c_Night_lose_L25b F  (c_Night_lose_L25 F  n) := rfl
      rw [e]; clear e
      generalize c_Night_lose_L25 F  n = k25 at hk25 ⊢
      intro x1 x2 x4 s0 H locs ls h Y hl
      unfold c_Night_lose_L25b at h
      refine lv_iload X.1 X.2.1 (dck_at da_X6_lose 18 rfl) (lv_at hl 3 rfl) ?_
      refine lv_iconst X.1 X.2.1 (dck_at da_X6_lose 19 rfl) ki_4 ?_
      refine lv_icmp_ge (tgt := 69) X.1 X.2.1 (dck_at da_X6_lose 20 rfl) rfl (fun c => ?_) (fun c => ?_)
      · have h := gI_pos h c
        exact gr_vretO X Y h hr hlk (dck_at da_X6_lose 45 rfl)
      · have h := gI_neg h c
        refine lv_iload_n X.1 X.2.1 (dck_at da_X6_lose 21 rfl) rfl (lv_at hl 1 rfl) ?_
        refine lv_iconst X.1 X.2.1 (dck_at da_X6_lose 22 rfl) ki_4 ?_
        refine lv_imul X.1 X.2.1 (dck_at da_X6_lose 23 rfl) ?_
        refine lv_iload X.1 X.2.1 (dck_at da_X6_lose 24 rfl) (lv_at hl 3 rfl) ?_
        refine lv_iadd X.1 X.2.1 (dck_at da_X6_lose 25 rfl) ?_
        refine lv_istore (lv' := [(5, .int ((x1 * (4 : Int32)) + x4)), (0, .ref (ad 9)), (1, .int x1), (2, .int x2), (4, .int x4)]) X.1 X.2.1 (dck_at da_X6_lose 26 rfl) hl (by decide) rfl (fun ls hl => ?_)
        refine lv_aload_n X.1 X.2.1 (dck_at da_X6_lose 27 rfl) rfl (lv_at hl 1 rfl) ?_
        refine gr_getR X G Y fk_RX6_9 clC_9 rfl (dck_at da_X6_lose 28 rfl) ?_
        refine lv_iload X.1 X.2.1 (dck_at da_X6_lose 29 rfl) (lv_at hl 0 rfl) ?_
        refine lv_dup2_11 X.1 X.2.1 (dck_at da_X6_lose 30 rfl) rfl rfl ?_
        obtain ⟨hin, h⟩ := gI_if h
        refine gr_lald X G Y clC_10 hin (dck_at da_X6_lose 31 rfl) ?_
        refine lv_aload_n X.1 X.2.1 (dck_at da_X6_lose 32 rfl) rfl (lv_at hl 1 rfl) ?_
        refine gr_getR X G Y fk_RX6_9 clC_9 rfl (dck_at da_X6_lose 33 rfl) ?_
        refine lv_iload X.1 X.2.1 (dck_at da_X6_lose 34 rfl) (lv_at hl 0 rfl) ?_
        obtain ⟨hin, h⟩ := gI_if h
        refine gr_lald X G Y clC_10 hin (dck_at da_X6_lose 35 rfl) ?_
        refine lv_iload_n X.1 X.2.1 (dck_at da_X6_lose 36 rfl) rfl (lv_at hl 3 rfl) ?_
        refine lv_i2l (v := (x2).toInt64) X.1 X.2.1 (dck_at da_X6_lose 37 rfl) rfl ?_
        refine lv_lmul X.1 X.2.1 (dck_at da_X6_lose 38 rfl) ?_
        refine lv_ldc2 X.1 X.2.1 X.2.2.2.1 (X.2.2.2.2 _ wm_725) (dck_at da_X6_lose 39 rfl) ?_
        refine lv_ldiv X.1 X.2.1 (dck_at da_X6_lose 40 rfl) (by decide) ?_
        refine lv_lsub X.1 X.2.1 (dck_at da_X6_lose 41 rfl) ?_
        obtain ⟨hin, h⟩ := gI_if h
        refine gr_last X G Y clC_10 hin (dck_at da_X6_lose 42 rfl) (fun H locs Y => ?_)
        refine lv_iinc (v := x4 + (1 : Int32)) (lv' := [(4, .int (x4 + (1 : Int32))), (5, .int ((x1 * (4 : Int32)) + x4)), (0, .ref (ad 9)), (1, .int x1), (2, .int x2)]) X.1 X.2.1 (dck_at da_X6_lose 43 rfl) hl (k := 4) rfl (congrArg (HAdd.hAdd _) ki_1) (by decide) rfl (fun ls hl => ?_)
        refine lv_goto (tgt := 25) X.1 X.2.1 (dck_at da_X6_lose 44 rfl) rfl ?_
        exact hk25 x1 x2 (x4 + (1 : Int32)) (sJ s0 10 ((x1 * (4 : Int32)) + x4).toNatClampNeg ((s0.2 10 ((x1 * (4 : Int32)) + x4).toNatClampNeg) - (((s0.2 10 ((x1 * (4 : Int32)) + x4).toNatClampNeg) * ((x2).toInt64)) / (16 : Int64)))) _ _ _ h Y (lv_sub hl [2, 3, 4, 0] rfl)
  unfold c_Night_lose at h
  refine lv_aload_n X.1 X.2.1 (dck_at da_X6_lose 0 rfl) rfl (lv_at hl 0 rfl) ?_
  refine gr_getR X G Y fk_RX6_15 clC_9 rfl (dck_at da_X6_lose 1 rfl) ?_
  refine lv_iload_n X.1 X.2.1 (dck_at da_X6_lose 2 rfl) rfl (lv_at hl 1 rfl) ?_
  refine lv_dup2_11 X.1 X.2.1 (dck_at da_X6_lose 3 rfl) rfl rfl ?_
  obtain ⟨hin, h⟩ := gI_if h
  refine gr_lald X G Y clC_11 hin (dck_at da_X6_lose 4 rfl) ?_
  refine lv_aload_n X.1 X.2.1 (dck_at da_X6_lose 5 rfl) rfl (lv_at hl 0 rfl) ?_
  refine gr_getR X G Y fk_RX6_15 clC_9 rfl (dck_at da_X6_lose 6 rfl) ?_
  refine lv_iload_n X.1 X.2.1 (dck_at da_X6_lose 7 rfl) rfl (lv_at hl 1 rfl) ?_
  obtain ⟨hin, h⟩ := gI_if h
  refine gr_lald X G Y clC_11 hin (dck_at da_X6_lose 8 rfl) ?_
  refine lv_iload_n X.1 X.2.1 (dck_at da_X6_lose 9 rfl) rfl (lv_at hl 3 rfl) ?_
  refine lv_i2l (v := (a3).toInt64) X.1 X.2.1 (dck_at da_X6_lose 10 rfl) rfl ?_
  refine lv_lmul X.1 X.2.1 (dck_at da_X6_lose 11 rfl) ?_
  refine lv_ldc2 X.1 X.2.1 X.2.2.2.1 (X.2.2.2.2 _ wm_725) (dck_at da_X6_lose 12 rfl) ?_
  refine lv_ldiv X.1 X.2.1 (dck_at da_X6_lose 13 rfl) (by decide) ?_
  refine lv_lsub X.1 X.2.1 (dck_at da_X6_lose 14 rfl) ?_
  obtain ⟨hin, h⟩ := gI_if h
  refine gr_last X G Y clC_11 hin (dck_at da_X6_lose 15 rfl) (fun H locs Y => ?_)
  refine lv_iconst X.1 X.2.1 (dck_at da_X6_lose 16 rfl) ki_0 ?_
  refine lv_istore (lv' := [(4, .int (0 : Int32)), (0, .ref (ad 9)), (1, .int a1), (2, .int a2), (3, .int a3)]) X.1 X.2.1 (dck_at da_X6_lose 17 rfl) hl (by decide) rfl (fun ls hl => ?_)
  exact b25 F a1 a2 (0 : Int32) (sJ s0 11 (a1).toNatClampNeg ((s0.2 11 (a1).toNatClampNeg) - (((s0.2 11 (a1).toNatClampNeg) * ((a3).toInt64)) / (16 : Int64)))) _ _ _ h Y (lv_sub hl [1, 2, 3, 0] rfl)
set_option maxRecDepth 100000 in
set_option maxHeartbeats 4000000 in
theorem ok_c_State_lookFor {l : Launch} {D : va_G} {cy : Nat → ClassId} {ad sa : Nat → Nat} {A : Nat → Prop} {F : Nat} {a1 : Int32} {a2 : Int32} {s0 : St} {ρ : Int64} {σ' : St} (h : c_State_lookFor F a1 a2 s0 = some (ρ, σ')) : gMl l shC D cy ad sa A yX8_lookFor cX8_lookFor 6 (some .long) 3 [.ref (ad 1), .int a1, .int a2] s0 ρ σ' := by
  refine gM_of (by decide) (Nat.le_of_ble_eq_true rfl) ?_
  intro p e s m args below meth c ls X G Y hr hlk hl
  have hl : lv_has ls 6 [(0, .ref (ad 1)), (1, .int a1), (2, .int a2)] := hl
  unfold c_State_lookFor at h
  refine lv_aload_n X.1 X.2.1 (dck_at da_X8_lookFor 0 rfl) rfl (lv_at hl 0 rfl) ?_
  refine gr_getR X G Y fk_RX8_12 clC_1 rfl (dck_at da_X8_lookFor 1 rfl) ?_
  refine gr_getR X G Y fk_RX8_82 clC_2 rfl (dck_at da_X8_lookFor 2 rfl) ?_
  refine lv_iload_n X.1 X.2.1 (dck_at da_X8_lookFor 3 rfl) rfl (lv_at hl 2 rfl) ?_
  obtain ⟨hin, h⟩ := gI_if h
  refine gr_iald X G Y clC_3 hin (dck_at da_X8_lookFor 4 rfl) ?_
  refine lv_istore_n (lv' := [(3, .int (s0.1 3 (a2).toNatClampNeg)), (0, .ref (ad 1)), (1, .int a1), (2, .int a2)]) X.1 X.2.1 (dck_at da_X8_lookFor 5 rfl) rfl hl (by decide) rfl (fun ls hl => ?_)
  refine lv_aload_n X.1 X.2.1 (dck_at da_X8_lookFor 6 rfl) rfl (lv_at hl 1 rfl) ?_
  refine lv_iload_n X.1 X.2.1 (dck_at da_X8_lookFor 7 rfl) rfl (lv_at hl 2 rfl) ?_
  refine lv_iload_n X.1 X.2.1 (dck_at da_X8_lookFor 8 rfl) rfl (lv_at hl 3 rfl) ?_
  refine lv_aload_n X.1 X.2.1 (dck_at da_X8_lookFor 9 rfl) rfl (lv_at hl 1 rfl) ?_
  refine gr_getR X G Y fk_RX8_28 clC_1 rfl (dck_at da_X8_lookFor 10 rfl) ?_
  refine gr_getI X G Y fk_RX8_99 clC_9 rfl (dck_at da_X8_lookFor 11 rfl) ?_
  obtain ⟨r1, s1, hc, h⟩ := gB2_some h
  refine gr_backl Y (gr_runV (as := [.int a1, .int a2, .int (s0.1 9 4)]) (rest := []) X G Y (ok_c_State_seen hc) cv_RX8_94 clC_1 ⟨Nat.le_of_ble_eq_true rfl, Nat.le_of_ble_eq_true rfl⟩ rfl hl.1 (Nat.le_of_ble_eq_true rfl) (dck_at da_X8_lookFor 12 rfl)) (fun H locs Y => ?_)
  refine lv_lstore (lv' := [(4, .long r1), (3, .int (s0.1 3 (a2).toNatClampNeg)), (0, .ref (ad 1)), (1, .int a1), (2, .int a2)]) X.1 X.2.1 (dck_at da_X8_lookFor 13 rfl) hl (by decide) rfl (fun ls hl => ?_)
  refine lv_aload_n X.1 X.2.1 (dck_at da_X8_lookFor 14 rfl) rfl (lv_at hl 2 rfl) ?_
  refine gr_getR X G Y fk_RX8_28 clC_1 rfl (dck_at da_X8_lookFor 15 rfl) ?_
  refine lv_iload_n X.1 X.2.1 (dck_at da_X8_lookFor 16 rfl) rfl (lv_at hl 4 rfl) ?_
  refine lv_aload_n X.1 X.2.1 (dck_at da_X8_lookFor 17 rfl) rfl (lv_at hl 2 rfl) ?_
  refine gr_getR X G Y fk_RX8_21 clC_1 rfl (dck_at da_X8_lookFor 18 rfl) ?_
  refine lv_iload_n X.1 X.2.1 (dck_at da_X8_lookFor 19 rfl) rfl (lv_at hl 3 rfl) ?_
  refine lv_iload_n X.1 X.2.1 (dck_at da_X8_lookFor 20 rfl) rfl (lv_at hl 1 rfl) ?_
  refine lv_iconst X.1 X.2.1 (dck_at da_X8_lookFor 21 rfl) ki_0 ?_
  refine lv_aload_n X.1 X.2.1 (dck_at da_X8_lookFor 22 rfl) rfl (lv_at hl 2 rfl) ?_
  refine gr_getR X G Y fk_RX8_28 clC_1 rfl (dck_at da_X8_lookFor 23 rfl) ?_
  refine gr_getI X G Y fk_RX8_99 clC_9 rfl (dck_at da_X8_lookFor 24 rfl) ?_
  obtain ⟨r2, s2, hc, h⟩ := gB2_some h
  refine gr_backi Y (gr_runV (as := [.int a1, .int (s0.1 3 (a2).toNatClampNeg), .int (0 : Int32), .int (s1.1 9 4)]) (rest := [.int a2, .ref (ad 9)]) X G Y (ok_c_Law_sight hc) cv_RX8_86 clC_6 ⟨Nat.le_of_ble_eq_true rfl, Nat.le_of_ble_eq_true rfl⟩ rfl hl.1 (Nat.le_of_ble_eq_true rfl) (dck_at da_X8_lookFor 25 rfl)) (fun H locs Y => ?_)
  refine lv_aload_n X.1 X.2.1 (dck_at da_X8_lookFor 26 rfl) rfl (lv_at hl 2 rfl) ?_
  refine gr_getR X G Y fk_RX8_21 clC_1 rfl (dck_at da_X8_lookFor 27 rfl) ?_
  refine lv_iload_n X.1 X.2.1 (dck_at da_X8_lookFor 28 rfl) rfl (lv_at hl 3 rfl) ?_
  refine lv_iload_n X.1 X.2.1 (dck_at da_X8_lookFor 29 rfl) rfl (lv_at hl 1 rfl) ?_
  refine lv_iconst X.1 X.2.1 (dck_at da_X8_lookFor 30 rfl) ki_1 ?_
  refine lv_aload_n X.1 X.2.1 (dck_at da_X8_lookFor 31 rfl) rfl (lv_at hl 2 rfl) ?_
  refine gr_getR X G Y fk_RX8_28 clC_1 rfl (dck_at da_X8_lookFor 32 rfl) ?_
  refine gr_getI X G Y fk_RX8_99 clC_9 rfl (dck_at da_X8_lookFor 33 rfl) ?_
  obtain ⟨r3, s3, hc, h⟩ := gB2_some h
  refine gr_backi Y (gr_runV (as := [.int a1, .int (s0.1 3 (a2).toNatClampNeg), .int (1 : Int32), .int (s2.1 9 4)]) (rest := [.int r2, .int a2, .ref (ad 9)]) X G Y (ok_c_Law_sight hc) cv_RX8_86 clC_6 ⟨Nat.le_of_ble_eq_true rfl, Nat.le_of_ble_eq_true rfl⟩ rfl hl.1 (Nat.le_of_ble_eq_true rfl) (dck_at da_X8_lookFor 34 rfl)) (fun H locs Y => ?_)
  obtain ⟨s4, hc, h⟩ := gB_some h
  refine gr_backv Y (gr_runV (as := [.int a2, .int r2, .int r3]) (rest := []) X G Y (ok_c_Night_lose hc) cv_RX8_103 clC_9 ⟨Nat.le_of_ble_eq_true rfl, Nat.le_of_ble_eq_true rfl⟩ rfl hl.1 (Nat.le_of_ble_eq_true rfl) (dck_at da_X8_lookFor 35 rfl)) (fun H locs Y => ?_)
  refine lv_aload_n X.1 X.2.1 (dck_at da_X8_lookFor 36 rfl) rfl (lv_at hl 2 rfl) ?_
  refine gr_getR X G Y fk_RX8_12 clC_1 rfl (dck_at da_X8_lookFor 37 rfl) ?_
  refine gr_getR X G Y fk_RX8_107 clC_2 rfl (dck_at da_X8_lookFor 38 rfl) ?_
  refine lv_iload_n X.1 X.2.1 (dck_at da_X8_lookFor 39 rfl) rfl (lv_at hl 4 rfl) ?_
  refine lv_dup2_11 X.1 X.2.1 (dck_at da_X8_lookFor 40 rfl) rfl rfl ?_
  obtain ⟨hin, h⟩ := gI_if h
  refine gr_iald X G Y clC_5 hin (dck_at da_X8_lookFor 41 rfl) ?_
  refine lv_iconst X.1 X.2.1 (dck_at da_X8_lookFor 42 rfl) ki_1 ?_
  refine lv_iadd X.1 X.2.1 (dck_at da_X8_lookFor 43 rfl) ?_
  obtain ⟨hin, h⟩ := gI_if h
  refine gr_iast X G Y clC_5 hin (dck_at da_X8_lookFor 44 rfl) (fun H locs Y => ?_)
  refine lv_lload X.1 X.2.1 (dck_at da_X8_lookFor 45 rfl) (lv_at hl 0 rfl) ?_
  exact gr_lretO X Y h hr hlk (dck_at da_X8_lookFor 46 rfl)
set_option maxRecDepth 100000 in
set_option maxHeartbeats 4000000 in
theorem ok_c_thousandths {l : Launch} {D : va_G} {cy : Nat → ClassId} {ad sa : Nat → Nat} {A : Nat → Prop} {F : Nat} {a0 : Int64} {a2 : Int64} {s0 : St} {ρ : Int32} {σ' : St} (h : c_thousandths F a0 a2 s0 = some (ρ, σ')) : gMi l shC D cy ad sa A yX11_thousandths cX11_thousandths 4 (some .int) 1 [.long a0, .long a2] s0 ρ σ' := by
  refine gM_of (by decide) (Nat.le_of_ble_eq_true rfl) ?_
  intro p e s m args below meth c ls X G Y hr hlk hl
  have hl : lv_has ls 4 [(0, .long a0), (2, .long a2)] := hl
  unfold c_thousandths at h
  refine lv_lload_n X.1 X.2.1 (dck_at da_X11_thousandths 0 rfl) rfl (lv_at hl 1 rfl) ?_
  refine lv_lconst (v := 0) X.1 X.2.1 (dck_at da_X11_thousandths 1 rfl) rfl ?_
  refine W.lcmp X.1 X.2.1 (dck_at da_X11_thousandths 2 rfl) ?_
  refine lv_if_gt (tgt := 10) X.1 X.2.1 (dck_at da_X11_thousandths 3 rfl) rfl (fun c => ?_) (fun c => ?_)
  · have h := gI_pos h c
    refine lv_lload_n X.1 X.2.1 (dck_at da_X11_thousandths 6 rfl) rfl (lv_at hl 0 rfl) ?_
    refine lv_ldc2 X.1 X.2.1 X.2.2.2.1 (X.2.2.2.2 _ wm_733) (dck_at da_X11_thousandths 7 rfl) ?_
    refine lv_lmul X.1 X.2.1 (dck_at da_X11_thousandths 8 rfl) ?_
    refine lv_lload_n X.1 X.2.1 (dck_at da_X11_thousandths 9 rfl) rfl (lv_at hl 1 rfl) ?_
    obtain ⟨hz, h⟩ := gI_nz h
    refine lv_ldiv X.1 X.2.1 (dck_at da_X11_thousandths 10 rfl) hz ?_
    refine lv_l2i (v := ((a0 * (1000 : Int64)) / a2).toInt32) X.1 X.2.1 (dck_at da_X11_thousandths 11 rfl) rfl ?_
    exact gr_iretO X Y h hr rfl hlk (dck_at da_X11_thousandths 12 rfl)
  · have h := gI_neg h c
    refine lv_iconst X.1 X.2.1 (dck_at da_X11_thousandths 4 rfl) ki_0 ?_
    refine lv_goto (tgt := 18) X.1 X.2.1 (dck_at da_X11_thousandths 5 rfl) rfl ?_
    exact gr_iretO X Y h hr rfl hlk (dck_at da_X11_thousandths 12 rfl)
set_option maxRecDepth 100000 in
set_option maxHeartbeats 4000000 in
theorem ok_c_search {l : Launch} {D : va_G} {cy : Nat → ClassId} {ad sa : Nat → Nat} {A : Nat → Prop} {F : Nat} {a1 : Int32} {a2 : Int32} {s0 : St} {ρ : Int32} {σ' : St} (h : c_search F a1 a2 s0 = some (ρ, σ')) : gMi l shC D cy ad sa A yX11_search cX11_search 5 (some .int) 4 [.ref (ad 0), .int a1, .int a2] s0 ρ σ' := by
  refine gM_of (by decide) (Nat.le_of_ble_eq_true rfl) ?_
  intro p e s m args below meth c ls X G Y hr hlk hl
  have hl : lv_has ls 5 [(0, .ref (ad 0)), (1, .int a1), (2, .int a2)] := hl
  have b14 : ∀  (s0 : St) (H : Heap) (locs : List Loc) (ls : Array Slot), c_search_J14 F  s0 = some (ρ, σ') → gY shC D cy ad A s0 s H locs → lv_has ls 5 [(0, .ref (ad 0))] → W p l e (grm 4) s m args below meth c H locs 0 0 (MQ below (va_Qi (fun (q : Int32) (_ : Unit) => q = ρ) (fun _ t => va_P D vwCl (gWl shC cy ad σ') t.heap) A) args s 0 0 A) (F0 m 14 ls []) := by
    intro s0 H locs ls h Y hl
    unfold c_search_J14 at h
    refine lv_aload_n X.1 X.2.1 (dck_at da_X11_search 6 rfl) rfl (lv_at hl 0 rfl) ?_
    refine lv_iconst X.1 X.2.1 (dck_at da_X11_search 7 rfl) ki_m1 ?_
    obtain ⟨r1, s1, hc, h⟩ := gB2_some h
    refine gr_backi Y (gr_runV (as := [.int (-1 : Int32)]) (rest := []) X G Y (ok_c_refuse hc) cv_RX11_55 clC_0 ⟨Nat.le_of_ble_eq_true rfl, Nat.le_of_ble_eq_true rfl⟩ rfl hl.1 (Nat.le_of_ble_eq_true rfl) (dck_at da_X11_search 8 rfl)) (fun H locs Y => ?_)
    exact gr_iretO X Y h hr rfl hlk (dck_at da_X11_search 9 rfl)
  unfold c_search at h
  refine lv_iload_n X.1 X.2.1 (dck_at da_X11_search 0 rfl) rfl (lv_at hl 1 rfl) ?_
  obtain ⟨r2, s2, hc, h⟩ := gB2_some h
  refine gr_backi Y (gr_runS (as := [.int a1]) (rest := []) X G Y (ok_c_isSort hc) cs_RX11_209 ⟨Nat.le_of_ble_eq_true rfl, Nat.le_of_ble_eq_true rfl⟩ rfl hl.1 (Nat.le_of_ble_eq_true rfl) (dck_at da_X11_search 1 rfl)) (fun H locs Y => ?_)
  refine lv_if_eq (tgt := 14) X.1 X.2.1 (dck_at da_X11_search 2 rfl) rfl (fun c => ?_) (fun c => ?_)
  · have h := gI_pos h c
    exact b14 s2 _ _ _ h Y (lv_sub hl [0] rfl)
  · have h := gI_neg h c
    refine lv_iload_n X.1 X.2.1 (dck_at da_X11_search 3 rfl) rfl (lv_at hl 2 rfl) ?_
    obtain ⟨r3, s3, hc, h⟩ := gB2_some h
    refine gr_backi Y (gr_runS (as := [.int a2]) (rest := []) X G Y (ok_c_isCell hc) cs_RX11_48 ⟨Nat.le_of_ble_eq_true rfl, Nat.le_of_ble_eq_true rfl⟩ rfl hl.1 (Nat.le_of_ble_eq_true rfl) (dck_at da_X11_search 4 rfl)) (fun H locs Y => ?_)
    refine lv_if_ne (tgt := 20) X.1 X.2.1 (dck_at da_X11_search 5 rfl) rfl (fun c => ?_) (fun c => ?_)
    · have h := gI_neg h c
      refine lv_aload_n X.1 X.2.1 (dck_at da_X11_search 10 rfl) rfl (lv_at hl 0 rfl) ?_
      refine gr_getR X G Y fk_RX11_12 clC_0 rfl (dck_at da_X11_search 11 rfl) ?_
      refine gr_getR X G Y fk_RX11_122 clC_1 rfl (dck_at da_X11_search 12 rfl) ?_
      obtain ⟨r4, s4, hc, h⟩ := gB2_some h
      refine gr_backi Y (gr_runV (as := []) (rest := []) X G Y (ok_c_Night_isOut hc) cv_RX11_132 clC_9 ⟨Nat.le_of_ble_eq_true rfl, Nat.le_of_ble_eq_true rfl⟩ rfl hl.1 (Nat.le_of_ble_eq_true rfl) (dck_at da_X11_search 13 rfl)) (fun H locs Y => ?_)
      refine lv_if_ne (tgt := 40) X.1 X.2.1 (dck_at da_X11_search 14 rfl) rfl (fun c => ?_) (fun c => ?_)
      · have h := gI_neg h c
        refine lv_aload_n X.1 X.2.1 (dck_at da_X11_search 19 rfl) rfl (lv_at hl 0 rfl) ?_
        refine gr_getR X G Y fk_RX11_12 clC_0 rfl (dck_at da_X11_search 20 rfl) ?_
        refine gr_getR X G Y fk_RX11_122 clC_1 rfl (dck_at da_X11_search 21 rfl) ?_
        obtain ⟨r5, s5, hc, h⟩ := gB2_some h
        refine gr_backl Y (gr_runV (as := []) (rest := []) X G Y (ok_c_Night_all hc) cv_RX11_158 clC_9 ⟨Nat.le_of_ble_eq_true rfl, Nat.le_of_ble_eq_true rfl⟩ rfl hl.1 (Nat.le_of_ble_eq_true rfl) (dck_at da_X11_search 22 rfl)) (fun H locs Y => ?_)
        refine lv_lstore_n (lv' := [(3, .long r5), (0, .ref (ad 0)), (1, .int a1), (2, .int a2)]) X.1 X.2.1 (dck_at da_X11_search 23 rfl) rfl hl (by decide) rfl (fun ls hl => ?_)
        refine lv_lload_n X.1 X.2.1 (dck_at da_X11_search 24 rfl) rfl (lv_at hl 0 rfl) ?_
        refine lv_lconst (v := 0) X.1 X.2.1 (dck_at da_X11_search 25 rfl) rfl ?_
        refine W.lcmp X.1 X.2.1 (dck_at da_X11_search 26 rfl) ?_
        refine lv_if_gt (tgt := 64) X.1 X.2.1 (dck_at da_X11_search 27 rfl) rfl (fun c => ?_) (fun c => ?_)
        · have h := gI_pos h c
          refine lv_aload_n X.1 X.2.1 (dck_at da_X11_search 32 rfl) rfl (lv_at hl 1 rfl) ?_
          refine gr_getR X G Y fk_RX11_12 clC_0 rfl (dck_at da_X11_search 33 rfl) ?_
          refine lv_iload_n X.1 X.2.1 (dck_at da_X11_search 34 rfl) rfl (lv_at hl 2 rfl) ?_
          refine lv_iload_n X.1 X.2.1 (dck_at da_X11_search 35 rfl) rfl (lv_at hl 3 rfl) ?_
          obtain ⟨r6, s6, hc, h⟩ := gB2_some h
          refine gr_backl Y (gr_runV (as := [.int a1, .int a2]) (rest := []) X G Y (ok_c_State_lookFor hc) cv_RX11_216 clC_1 ⟨Nat.le_of_ble_eq_true rfl, Nat.le_of_ble_eq_true rfl⟩ rfl hl.1 (Nat.le_of_ble_eq_true rfl) (dck_at da_X11_search 36 rfl)) (fun H locs Y => ?_)
          refine lv_lload_n X.1 X.2.1 (dck_at da_X11_search 37 rfl) rfl (lv_at hl 0 rfl) ?_
          obtain ⟨r7, s7, hc, h⟩ := gB2_some h
          refine gr_backi Y (gr_runS (as := [.long r6, .long r5]) (rest := []) X G Y (ok_c_thousandths hc) cs_RX11_220 ⟨Nat.le_of_ble_eq_true rfl, Nat.le_of_ble_eq_true rfl⟩ rfl hl.1 (Nat.le_of_ble_eq_true rfl) (dck_at da_X11_search 38 rfl)) (fun H locs Y => ?_)
          exact gr_iretO X Y h hr rfl hlk (dck_at da_X11_search 39 rfl)
        · have h := gI_neg h c
          refine lv_aload_n X.1 X.2.1 (dck_at da_X11_search 28 rfl) rfl (lv_at hl 1 rfl) ?_
          refine lv_bipush X.1 X.2.1 (dck_at da_X11_search 29 rfl) kb_m4 ?_
          obtain ⟨r8, s8, hc, h⟩ := gB2_some h
          refine gr_backi Y (gr_runV (as := [.int (-4 : Int32)]) (rest := []) X G Y (ok_c_refuse hc) cv_RX11_55 clC_0 ⟨Nat.le_of_ble_eq_true rfl, Nat.le_of_ble_eq_true rfl⟩ rfl hl.1 (Nat.le_of_ble_eq_true rfl) (dck_at da_X11_search 30 rfl)) (fun H locs Y => ?_)
          exact gr_iretO X Y h hr rfl hlk (dck_at da_X11_search 31 rfl)
      · have h := gI_pos h c
        refine lv_aload_n X.1 X.2.1 (dck_at da_X11_search 15 rfl) rfl (lv_at hl 0 rfl) ?_
        refine lv_bipush X.1 X.2.1 (dck_at da_X11_search 16 rfl) kb_m2 ?_
        obtain ⟨r9, s9, hc, h⟩ := gB2_some h
        refine gr_backi Y (gr_runV (as := [.int (-2 : Int32)]) (rest := []) X G Y (ok_c_refuse hc) cv_RX11_55 clC_0 ⟨Nat.le_of_ble_eq_true rfl, Nat.le_of_ble_eq_true rfl⟩ rfl hl.1 (Nat.le_of_ble_eq_true rfl) (dck_at da_X11_search 17 rfl)) (fun H locs Y => ?_)
        exact gr_iretO X Y h hr rfl hlk (dck_at da_X11_search 18 rfl)
    · have h := gI_pos h c
      exact b14 s3 _ _ _ h Y (lv_sub hl [0] rfl)
set_option maxRecDepth 100000 in
set_option maxHeartbeats 4000000 in
theorem ok_c_Law_livingAt {l : Launch} {D : va_G} {cy : Nat → ClassId} {ad sa : Nat → Nat} {A : Nat → Prop} {F : Nat} {a1 : Int32} {s0 : St} {ρ : Int32} {σ' : St} (h : c_Law_livingAt F a1 s0 = some (ρ, σ')) : gMi l shC D cy ad sa A yX4_livingAt cX4_livingAt 3 (some .int) 1 [.ref (ad 6), .int a1] s0 ρ σ' := by
  refine gM_of (by decide) (Nat.le_of_ble_eq_true rfl) ?_
  intro p e s m args below meth c ls X G Y hr hlk hl
  have hl : lv_has ls 3 [(0, .ref (ad 6)), (1, .int a1)] := hl
  unfold c_Law_livingAt at h
  refine lv_sipush X.1 X.2.1 (dck_at da_X4_livingAt 0 rfl) ks_240 ?_
  refine lv_bipush X.1 X.2.1 (dck_at da_X4_livingAt 1 rfl) kb_60 ?_
  refine lv_aload_n X.1 X.2.1 (dck_at da_X4_livingAt 2 rfl) rfl (lv_at hl 0 rfl) ?_
  refine gr_getR X G Y fk_RX4_9 clC_6 rfl (dck_at da_X4_livingAt 3 rfl) ?_
  refine lv_bipush X.1 X.2.1 (dck_at da_X4_livingAt 4 rfl) kb_6 ?_
  obtain ⟨hin, h⟩ := gI_if h
  refine gr_iald X G Y clC_7 hin (dck_at da_X4_livingAt 5 rfl) ?_
  refine lv_imul X.1 X.2.1 (dck_at da_X4_livingAt 6 rfl) ?_
  refine lv_iadd X.1 X.2.1 (dck_at da_X4_livingAt 7 rfl) ?_
  refine lv_bipush X.1 X.2.1 (dck_at da_X4_livingAt 8 rfl) kb_20 ?_
  refine lv_aload_n X.1 X.2.1 (dck_at da_X4_livingAt 9 rfl) rfl (lv_at hl 0 rfl) ?_
  refine gr_getR X G Y fk_RX4_9 clC_6 rfl (dck_at da_X4_livingAt 10 rfl) ?_
  refine lv_bipush X.1 X.2.1 (dck_at da_X4_livingAt 11 rfl) kb_7 ?_
  obtain ⟨hin, h⟩ := gI_if h
  refine gr_iald X G Y clC_7 hin (dck_at da_X4_livingAt 12 rfl) ?_
  refine lv_imul X.1 X.2.1 (dck_at da_X4_livingAt 13 rfl) ?_
  refine lv_isub X.1 X.2.1 (dck_at da_X4_livingAt 14 rfl) ?_
  refine lv_istore_n (lv' := [(2, .int (((240 : Int32) + ((60 : Int32) * (s0.1 7 ((6 : Int32)).toNatClampNeg))) - ((20 : Int32) * (s0.1 7 ((7 : Int32)).toNatClampNeg)))), (0, .ref (ad 6)), (1, .int a1)]) X.1 X.2.1 (dck_at da_X4_livingAt 15 rfl) rfl hl (by decide) rfl (fun ls hl => ?_)
  refine lv_iload_n X.1 X.2.1 (dck_at da_X4_livingAt 16 rfl) rfl (lv_at hl 2 rfl) ?_
  refine lv_iload_n X.1 X.2.1 (dck_at da_X4_livingAt 17 rfl) rfl (lv_at hl 0 rfl) ?_
  refine lv_icmp_gt (tgt := 35) X.1 X.2.1 (dck_at da_X4_livingAt 18 rfl) rfl (fun c => ?_) (fun c => ?_)
  · have h := gI_pos h c
    refine lv_iconst X.1 X.2.1 (dck_at da_X4_livingAt 21 rfl) ki_0 ?_
    refine lv_sipush X.1 X.2.1 (dck_at da_X4_livingAt 22 rfl) ks_1000 ?_
    refine lv_iconst X.1 X.2.1 (dck_at da_X4_livingAt 23 rfl) ki_2 ?_
    refine lv_aload_n X.1 X.2.1 (dck_at da_X4_livingAt 24 rfl) rfl (lv_at hl 1 rfl) ?_
    refine gr_getR X G Y fk_RX4_9 clC_6 rfl (dck_at da_X4_livingAt 25 rfl) ?_
    refine lv_bipush X.1 X.2.1 (dck_at da_X4_livingAt 26 rfl) kb_7 ?_
    obtain ⟨hin, h⟩ := gI_if h
    refine gr_iald X G Y clC_7 hin (dck_at da_X4_livingAt 27 rfl) ?_
    refine lv_iadd X.1 X.2.1 (dck_at da_X4_livingAt 28 rfl) ?_
    refine lv_iload_n X.1 X.2.1 (dck_at da_X4_livingAt 29 rfl) rfl (lv_at hl 2 rfl) ?_
    refine lv_iload_n X.1 X.2.1 (dck_at da_X4_livingAt 30 rfl) rfl (lv_at hl 0 rfl) ?_
    refine lv_isub X.1 X.2.1 (dck_at da_X4_livingAt 31 rfl) ?_
    refine lv_imul X.1 X.2.1 (dck_at da_X4_livingAt 32 rfl) ?_
    refine lv_isub X.1 X.2.1 (dck_at da_X4_livingAt 33 rfl) ?_
    refine gr_mmax X hl.1 wm_742 wm_482 wm_62 wm_483 ⟨Nat.le_of_ble_eq_true rfl, Nat.le_of_ble_eq_true rfl⟩ (dck_at da_X4_livingAt 34 rfl) ?_
    exact gr_iretO X Y h hr rfl hlk (dck_at da_X4_livingAt 35 rfl)
  · have h := gI_neg h c
    refine lv_sipush X.1 X.2.1 (dck_at da_X4_livingAt 19 rfl) ks_1000 ?_
    exact gr_iretO X Y h hr rfl hlk (dck_at da_X4_livingAt 20 rfl)
set_option maxRecDepth 100000 in
set_option maxHeartbeats 4000000 in
theorem ok_c_alive {l : Launch} {D : va_G} {cy : Nat → ClassId} {ad sa : Nat → Nat} {A : Nat → Prop} {F : Nat} {a1 : Int32} {s0 : St} {ρ : Int32} {σ' : St} (h : c_alive F a1 s0 = some (ρ, σ')) : gMi l shC D cy ad sa A yX11_alive cX11_alive 2 (some .int) 3 [.ref (ad 0), .int a1] s0 ρ σ' := by
  refine gM_of (by decide) (Nat.le_of_ble_eq_true rfl) ?_
  intro p e s m args below meth c ls X G Y hr hlk hl
  have hl : lv_has ls 2 [(0, .ref (ad 0)), (1, .int a1)] := hl
  unfold c_alive at h
  refine lv_iload_n X.1 X.2.1 (dck_at da_X11_alive 0 rfl) rfl (lv_at hl 1 rfl) ?_
  refine lv_iconst X.1 X.2.1 (dck_at da_X11_alive 1 rfl) ki_0 ?_
  refine lv_sipush X.1 X.2.1 (dck_at da_X11_alive 2 rfl) ks_999 ?_
  obtain ⟨r1, s1, hc, h⟩ := gB2_some h
  refine gr_backi Y (gr_runS (as := [.int a1, .int (0 : Int32), .int (999 : Int32)]) (rest := []) X G Y (ok_c_isIn hc) cs_RX11_68 ⟨Nat.le_of_ble_eq_true rfl, Nat.le_of_ble_eq_true rfl⟩ rfl hl.1 (Nat.le_of_ble_eq_true rfl) (dck_at da_X11_alive 3 rfl)) (fun H locs Y => ?_)
  refine lv_if_ne (tgt := 17) X.1 X.2.1 (dck_at da_X11_alive 4 rfl) rfl (fun c => ?_) (fun c => ?_)
  · have h := gI_neg h c
    refine lv_aload_n X.1 X.2.1 (dck_at da_X11_alive 9 rfl) rfl (lv_at hl 0 rfl) ?_
    refine gr_getR X G Y fk_RX11_12 clC_0 rfl (dck_at da_X11_alive 10 rfl) ?_
    refine gr_getR X G Y fk_RX11_83 clC_1 rfl (dck_at da_X11_alive 11 rfl) ?_
    refine lv_iload_n X.1 X.2.1 (dck_at da_X11_alive 12 rfl) rfl (lv_at hl 1 rfl) ?_
    obtain ⟨r2, s2, hc, h⟩ := gB2_some h
    refine gr_backi Y (gr_runV (as := [.int a1]) (rest := []) X G Y (ok_c_Law_livingAt hc) cv_RX11_224 clC_6 ⟨Nat.le_of_ble_eq_true rfl, Nat.le_of_ble_eq_true rfl⟩ rfl hl.1 (Nat.le_of_ble_eq_true rfl) (dck_at da_X11_alive 13 rfl)) (fun H locs Y => ?_)
    exact gr_iretO X Y h hr rfl hlk (dck_at da_X11_alive 14 rfl)
  · have h := gI_pos h c
    refine lv_aload_n X.1 X.2.1 (dck_at da_X11_alive 5 rfl) rfl (lv_at hl 0 rfl) ?_
    refine lv_iconst X.1 X.2.1 (dck_at da_X11_alive 6 rfl) ki_m1 ?_
    obtain ⟨r3, s3, hc, h⟩ := gB2_some h
    refine gr_backi Y (gr_runV (as := [.int (-1 : Int32)]) (rest := []) X G Y (ok_c_refuse hc) cv_RX11_55 clC_0 ⟨Nat.le_of_ble_eq_true rfl, Nat.le_of_ble_eq_true rfl⟩ rfl hl.1 (Nat.le_of_ble_eq_true rfl) (dck_at da_X11_alive 7 rfl)) (fun H locs Y => ?_)
    exact gr_iretO X Y h hr rfl hlk (dck_at da_X11_alive 8 rfl)
set_option maxRecDepth 100000 in
set_option maxHeartbeats 4000000 in
theorem ok_c_Teams_addTeam {l : Launch} {D : va_G} {cy : Nat → ClassId} {ad sa : Nat → Nat} {A : Nat → Prop} {F : Nat} {a1 : Int32} {a2 : Int32} {a3 : Int32} {s0 : St} {ρ : Int32} {σ' : St} (h : c_Teams_addTeam F a1 a2 a3 s0 = some (ρ, σ')) : gMi l shC D cy ad sa A yX10_addTeam cX10_addTeam 4 (some .int) 1 [.ref (ad 14), .int a1, .int a2, .int a3] s0 ρ σ' := by
  refine gM_of (by decide) (Nat.le_of_ble_eq_true rfl) ?_
  intro p e s m args below meth c ls X G Y hr hlk hl
  have hl : lv_has ls 4 [(0, .ref (ad 14)), (1, .int a1), (2, .int a2), (3, .int a3)] := hl
  unfold c_Teams_addTeam at h
  refine lv_aload_n X.1 X.2.1 (dck_at da_X10_addTeam 0 rfl) rfl (lv_at hl 0 rfl) ?_
  refine gr_getI X G Y fk_RX10_34 clC_14 rfl (dck_at da_X10_addTeam 1 rfl) ?_
  refine lv_iconst X.1 X.2.1 (dck_at da_X10_addTeam 2 rfl) ki_4 ?_
  refine lv_icmp_lt (tgt := 11) X.1 X.2.1 (dck_at da_X10_addTeam 3 rfl) rfl (fun c => ?_) (fun c => ?_)
  · have h := gI_pos h c
    refine lv_aload_n X.1 X.2.1 (dck_at da_X10_addTeam 6 rfl) rfl (lv_at hl 0 rfl) ?_
    refine gr_getR X G Y fk_RX10_11 clC_14 rfl (dck_at da_X10_addTeam 7 rfl) ?_
    refine lv_aload_n X.1 X.2.1 (dck_at da_X10_addTeam 8 rfl) rfl (lv_at hl 0 rfl) ?_
    refine gr_getI X G Y fk_RX10_34 clC_14 rfl (dck_at da_X10_addTeam 9 rfl) ?_
    refine lv_iload_n X.1 X.2.1 (dck_at da_X10_addTeam 10 rfl) rfl (lv_at hl 1 rfl) ?_
    obtain ⟨hin, h⟩ := gI_if h
    refine gr_iast X G Y clC_15 hin (dck_at da_X10_addTeam 11 rfl) (fun H locs Y => ?_)
    refine lv_aload_n X.1 X.2.1 (dck_at da_X10_addTeam 12 rfl) rfl (lv_at hl 0 rfl) ?_
    refine gr_getR X G Y fk_RX10_15 clC_14 rfl (dck_at da_X10_addTeam 13 rfl) ?_
    refine lv_aload_n X.1 X.2.1 (dck_at da_X10_addTeam 14 rfl) rfl (lv_at hl 0 rfl) ?_
    refine gr_getI X G Y fk_RX10_34 clC_14 rfl (dck_at da_X10_addTeam 15 rfl) ?_
    refine lv_iload_n X.1 X.2.1 (dck_at da_X10_addTeam 16 rfl) rfl (lv_at hl 2 rfl) ?_
    obtain ⟨hin, h⟩ := gI_if h
    refine gr_iast X G Y clC_16 hin (dck_at da_X10_addTeam 17 rfl) (fun H locs Y => ?_)
    refine lv_aload_n X.1 X.2.1 (dck_at da_X10_addTeam 18 rfl) rfl (lv_at hl 0 rfl) ?_
    refine gr_getR X G Y fk_RX10_18 clC_14 rfl (dck_at da_X10_addTeam 19 rfl) ?_
    refine lv_aload_n X.1 X.2.1 (dck_at da_X10_addTeam 20 rfl) rfl (lv_at hl 0 rfl) ?_
    refine gr_getI X G Y fk_RX10_34 clC_14 rfl (dck_at da_X10_addTeam 21 rfl) ?_
    refine lv_iload_n X.1 X.2.1 (dck_at da_X10_addTeam 22 rfl) rfl (lv_at hl 3 rfl) ?_
    obtain ⟨hin, h⟩ := gI_if h
    refine gr_iast X G Y clC_17 hin (dck_at da_X10_addTeam 23 rfl) (fun H locs Y => ?_)
    refine lv_aload_n X.1 X.2.1 (dck_at da_X10_addTeam 24 rfl) rfl (lv_at hl 0 rfl) ?_
    refine lv_dup X.1 X.2.1 (dck_at da_X10_addTeam 25 rfl) rfl ?_
    refine gr_getI X G Y fk_RX10_34 clC_14 rfl (dck_at da_X10_addTeam 26 rfl) ?_
    refine lv_dup_x1 X.1 X.2.1 (dck_at da_X10_addTeam 27 rfl) rfl rfl ?_
    refine lv_iconst X.1 X.2.1 (dck_at da_X10_addTeam 28 rfl) ki_1 ?_
    refine lv_iadd X.1 X.2.1 (dck_at da_X10_addTeam 29 rfl) ?_
    refine gr_putI X G Y fp_RX10_34 clC_14 rfl (dck_at da_X10_addTeam 30 rfl) (fun H locs Y => ?_)
    exact gr_iretO X Y h hr rfl hlk (dck_at da_X10_addTeam 31 rfl)
  · have h := gI_neg h c
    refine lv_bipush X.1 X.2.1 (dck_at da_X10_addTeam 4 rfl) kb_m3 ?_
    exact gr_iretO X Y h hr rfl hlk (dck_at da_X10_addTeam 5 rfl)
set_option maxRecDepth 100000 in
set_option maxHeartbeats 4000000 in
theorem ok_c_team {l : Launch} {D : va_G} {cy : Nat → ClassId} {ad sa : Nat → Nat} {A : Nat → Prop} {F : Nat} {a1 : Int32} {a2 : Int32} {a3 : Int32} {s0 : St} {ρ : Int32} {σ' : St} (h : c_team F a1 a2 a3 s0 = some (ρ, σ')) : gMi l shC D cy ad sa A yX11_team cX11_team 4 (some .int) 4 [.ref (ad 0), .int a1, .int a2, .int a3] s0 ρ σ' := by
  refine gM_of (by decide) (Nat.le_of_ble_eq_true rfl) ?_
  intro p e s m args below meth c ls X G Y hr hlk hl
  have hl : lv_has ls 4 [(0, .ref (ad 0)), (1, .int a1), (2, .int a2), (3, .int a3)] := hl
  have b24 : ∀  (s0 : St) (H : Heap) (locs : List Loc) (ls : Array Slot), c_team_J24 F  s0 = some (ρ, σ') → gY shC D cy ad A s0 s H locs → lv_has ls 4 [(0, .ref (ad 0))] → W p l e (grm 4) s m args below meth c H locs 0 0 (MQ below (va_Qi (fun (q : Int32) (_ : Unit) => q = ρ) (fun _ t => va_P D vwCl (gWl shC cy ad σ') t.heap) A) args s 0 0 A) (F0 m 24 ls []) := by
    intro s0 H locs ls h Y hl
    unfold c_team_J24 at h
    refine lv_aload_n X.1 X.2.1 (dck_at da_X11_team 11 rfl) rfl (lv_at hl 0 rfl) ?_
    refine lv_iconst X.1 X.2.1 (dck_at da_X11_team 12 rfl) ki_m1 ?_
    obtain ⟨r1, s1, hc, h⟩ := gB2_some h
    refine gr_backi Y (gr_runV (as := [.int (-1 : Int32)]) (rest := []) X G Y (ok_c_refuse hc) cv_RX11_55 clC_0 ⟨Nat.le_of_ble_eq_true rfl, Nat.le_of_ble_eq_true rfl⟩ rfl hl.1 (Nat.le_of_ble_eq_true rfl) (dck_at da_X11_team 13 rfl)) (fun H locs Y => ?_)
    exact gr_iretO X Y h hr rfl hlk (dck_at da_X11_team 14 rfl)
  unfold c_team at h
  refine lv_iload_n X.1 X.2.1 (dck_at da_X11_team 0 rfl) rfl (lv_at hl 1 rfl) ?_
  obtain ⟨r2, s2, hc, h⟩ := gB2_some h
  refine gr_backi Y (gr_runS (as := [.int a1]) (rest := []) X G Y (ok_c_isSort hc) cs_RX11_209 ⟨Nat.le_of_ble_eq_true rfl, Nat.le_of_ble_eq_true rfl⟩ rfl hl.1 (Nat.le_of_ble_eq_true rfl) (dck_at da_X11_team 1 rfl)) (fun H locs Y => ?_)
  refine lv_if_eq (tgt := 24) X.1 X.2.1 (dck_at da_X11_team 2 rfl) rfl (fun c => ?_) (fun c => ?_)
  · have h := gI_pos h c
    exact b24 s2 _ _ _ h Y (lv_sub hl [0] rfl)
  · have h := gI_neg h c
    refine lv_iload_n X.1 X.2.1 (dck_at da_X11_team 3 rfl) rfl (lv_at hl 2 rfl) ?_
    obtain ⟨r3, s3, hc, h⟩ := gB2_some h
    refine gr_backi Y (gr_runS (as := [.int a2]) (rest := []) X G Y (ok_c_isCell hc) cs_RX11_48 ⟨Nat.le_of_ble_eq_true rfl, Nat.le_of_ble_eq_true rfl⟩ rfl hl.1 (Nat.le_of_ble_eq_true rfl) (dck_at da_X11_team 4 rfl)) (fun H locs Y => ?_)
    refine lv_if_eq (tgt := 24) X.1 X.2.1 (dck_at da_X11_team 5 rfl) rfl (fun c => ?_) (fun c => ?_)
    · have h := gI_pos h c
      exact b24 s3 _ _ _ h Y (lv_sub hl [0] rfl)
    · have h := gI_neg h c
      refine lv_iload_n X.1 X.2.1 (dck_at da_X11_team 6 rfl) rfl (lv_at hl 3 rfl) ?_
      refine lv_iconst X.1 X.2.1 (dck_at da_X11_team 7 rfl) ki_1 ?_
      refine lv_bipush X.1 X.2.1 (dck_at da_X11_team 8 rfl) kb_9 ?_
      obtain ⟨r4, s4, hc, h⟩ := gB2_some h
      refine gr_backi Y (gr_runS (as := [.int a3, .int (1 : Int32), .int (9 : Int32)]) (rest := []) X G Y (ok_c_isIn hc) cs_RX11_68 ⟨Nat.le_of_ble_eq_true rfl, Nat.le_of_ble_eq_true rfl⟩ rfl hl.1 (Nat.le_of_ble_eq_true rfl) (dck_at da_X11_team 9 rfl)) (fun H locs Y => ?_)
      refine lv_if_ne (tgt := 30) X.1 X.2.1 (dck_at da_X11_team 10 rfl) rfl (fun c => ?_) (fun c => ?_)
      · have h := gI_neg h c
        refine lv_aload_n X.1 X.2.1 (dck_at da_X11_team 15 rfl) rfl (lv_at hl 0 rfl) ?_
        refine lv_aload_n X.1 X.2.1 (dck_at da_X11_team 16 rfl) rfl (lv_at hl 0 rfl) ?_
        refine gr_getR X G Y fk_RX11_12 clC_0 rfl (dck_at da_X11_team 17 rfl) ?_
        refine gr_getR X G Y fk_RX11_170 clC_1 rfl (dck_at da_X11_team 18 rfl) ?_
        refine lv_iload_n X.1 X.2.1 (dck_at da_X11_team 19 rfl) rfl (lv_at hl 1 rfl) ?_
        refine lv_iload_n X.1 X.2.1 (dck_at da_X11_team 20 rfl) rfl (lv_at hl 2 rfl) ?_
        refine lv_iload_n X.1 X.2.1 (dck_at da_X11_team 21 rfl) rfl (lv_at hl 3 rfl) ?_
        obtain ⟨r5, s5, hc, h⟩ := gB2_some h
        refine gr_backi Y (gr_runV (as := [.int a1, .int a2, .int a3]) (rest := [.ref (ad 0)]) X G Y (ok_c_Teams_addTeam hc) cv_RX11_227 clC_14 ⟨Nat.le_of_ble_eq_true rfl, Nat.le_of_ble_eq_true rfl⟩ rfl hl.1 (Nat.le_of_ble_eq_true rfl) (dck_at da_X11_team 22 rfl)) (fun H locs Y => ?_)
        obtain ⟨r6, s6, hc, h⟩ := gB2_some h
        refine gr_backi Y (gr_runV (as := [.int r5]) (rest := []) X G Y (ok_c_answered hc) cv_RX11_109 clC_0 ⟨Nat.le_of_ble_eq_true rfl, Nat.le_of_ble_eq_true rfl⟩ rfl hl.1 (Nat.le_of_ble_eq_true rfl) (dck_at da_X11_team 23 rfl)) (fun H locs Y => ?_)
        exact gr_iretO X Y h hr rfl hlk (dck_at da_X11_team 24 rfl)
      · have h := gI_pos h c
        exact b24 s4 _ _ _ h Y (lv_sub hl [0] rfl)
set_option maxRecDepth 100000 in
set_option maxHeartbeats 4000000 in
theorem ok_c_Teams_hasPlace {l : Launch} {D : va_G} {cy : Nat → ClassId} {ad sa : Nat → Nat} {A : Nat → Prop} {F : Nat} {a1 : Int32} {s0 : St} {ρ : Int32} {σ' : St} (h : c_Teams_hasPlace F a1 s0 = some (ρ, σ')) : gMi l shC D cy ad sa A yX10_hasPlace cX10_hasPlace 3 (some .boolean) 1 [.ref (ad 14), .int a1] s0 ρ σ' := by
  refine gM_of (by decide) (Nat.le_of_ble_eq_true rfl) ?_
  intro p e s m args below meth c ls X G Y hr hlk hl
  have hl : lv_has ls 3 [(0, .ref (ad 14)), (1, .int a1)] := hl
  have b2 : ∀ n : Nat, ∀ (x1 : Int32) (x2 : Int32) (s0 : St) (H : Heap) (locs : List Loc) (ls : Array Slot), c_Teams_hasPlace_L2 F  n x1 x2 s0 = some (ρ, σ') → gY shC D cy ad A s0 s H locs → lv_has ls 3 [(0, .ref (ad 14)), (1, .int x1), (2, .int x2)] → W p l e (grm 1) s m args below meth c H locs 0 0 (MQ below (va_Qi (fun (q : Int32) (_ : Unit) => q = ρ) (fun _ t => va_P D vwCl (gWl shC cy ad σ') t.heap) A) args s 0 0 A) (F0 m 2 ls []) := by
    intro n
    induction n with
    | zero => intro x1 x2 s0 H locs ls h Y hl; exact (gnone h).elim
    | succ n hk2 =>
      have e : c_Teams_hasPlace_L2 F  (n + 1) = c_Teams_hasPlace_L2b F  (c_Teams_hasPlace_L2 F  n) := rfl
      rw [e]; clear e
      generalize c_Teams_hasPlace_L2 F  n = k2 at hk2 ⊢
      intro x1 x2 s0 H locs ls h Y hl
      unfold c_Teams_hasPlace_L2b at h
      refine lv_iload_n X.1 X.2.1 (dck_at da_X10_hasPlace 2 rfl) rfl (lv_at hl 2 rfl) ?_
      refine lv_aload_n X.1 X.2.1 (dck_at da_X10_hasPlace 3 rfl) rfl (lv_at hl 0 rfl) ?_
      refine gr_getI X G Y fk_RX10_38 clC_14 rfl (dck_at da_X10_hasPlace 4 rfl) ?_
      refine lv_icmp_ge (tgt := 28) X.1 X.2.1 (dck_at da_X10_hasPlace 5 rfl) rfl (fun c => ?_) (fun c => ?_)
      · have h := gI_pos h c
        refine lv_iconst X.1 X.2.1 (dck_at da_X10_hasPlace 16 rfl) ki_0 ?_
        exact gr_iretO X Y h hr rfl hlk (dck_at da_X10_hasPlace 17 rfl)
      · have h := gI_neg h c
        refine lv_aload_n X.1 X.2.1 (dck_at da_X10_hasPlace 6 rfl) rfl (lv_at hl 0 rfl) ?_
        refine gr_getR X G Y fk_RX10_21 clC_14 rfl (dck_at da_X10_hasPlace 7 rfl) ?_
        refine lv_iload_n X.1 X.2.1 (dck_at da_X10_hasPlace 8 rfl) rfl (lv_at hl 2 rfl) ?_
        obtain ⟨hin, h⟩ := gI_if h
        refine gr_iald X G Y clC_18 hin (dck_at da_X10_hasPlace 9 rfl) ?_
        refine lv_iload_n X.1 X.2.1 (dck_at da_X10_hasPlace 10 rfl) rfl (lv_at hl 1 rfl) ?_
        refine lv_icmp_ne (tgt := 22) X.1 X.2.1 (dck_at da_X10_hasPlace 11 rfl) rfl (fun c => ?_) (fun c => ?_)
        · have h := gI_neg h c
          refine lv_iinc (v := x2 + (1 : Int32)) (lv' := [(2, .int (x2 + (1 : Int32))), (0, .ref (ad 14)), (1, .int x1)]) X.1 X.2.1 (dck_at da_X10_hasPlace 14 rfl) hl (k := 2) rfl (congrArg (HAdd.hAdd _) ki_1) (by decide) rfl (fun ls hl => ?_)
          refine lv_goto (tgt := 2) X.1 X.2.1 (dck_at da_X10_hasPlace 15 rfl) rfl ?_
          exact hk2 x1 (x2 + (1 : Int32)) s0 _ _ _ h Y (lv_sub hl [1, 2, 0] rfl)
        · have h := gI_pos h c
          refine lv_iconst X.1 X.2.1 (dck_at da_X10_hasPlace 12 rfl) ki_1 ?_
          exact gr_iretO X Y h hr rfl hlk (dck_at da_X10_hasPlace 13 rfl)
  unfold c_Teams_hasPlace at h
  refine lv_iconst X.1 X.2.1 (dck_at da_X10_hasPlace 0 rfl) ki_0 ?_
  refine lv_istore_n (lv' := [(2, .int (0 : Int32)), (0, .ref (ad 14)), (1, .int a1)]) X.1 X.2.1 (dck_at da_X10_hasPlace 1 rfl) rfl hl (by decide) rfl (fun ls hl => ?_)
  exact b2 F a1 (0 : Int32) s0 _ _ _ h Y (lv_sub hl [1, 2, 0] rfl)
set_option maxRecDepth 100000 in
set_option maxHeartbeats 4000000 in
theorem ok_c_Teams_addPlace {l : Launch} {D : va_G} {cy : Nat → ClassId} {ad sa : Nat → Nat} {A : Nat → Prop} {F : Nat} {a1 : Int32} {s0 : St} {ρ : Int32} {σ' : St} (h : c_Teams_addPlace F a1 s0 = some (ρ, σ')) : gMi l shC D cy ad sa A yX10_addPlace cX10_addPlace 2 (some .int) 2 [.ref (ad 14), .int a1] s0 ρ σ' := by
  refine gM_of (by decide) (Nat.le_of_ble_eq_true rfl) ?_
  intro p e s m args below meth c ls X G Y hr hlk hl
  have hl : lv_has ls 2 [(0, .ref (ad 14)), (1, .int a1)] := hl
  unfold c_Teams_addPlace at h
  refine lv_aload_n X.1 X.2.1 (dck_at da_X10_addPlace 0 rfl) rfl (lv_at hl 0 rfl) ?_
  refine gr_getI X G Y fk_RX10_38 clC_14 rfl (dck_at da_X10_addPlace 1 rfl) ?_
  refine lv_bipush X.1 X.2.1 (dck_at da_X10_addPlace 2 rfl) kb_6 ?_
  refine lv_icmp_lt (tgt := 12) X.1 X.2.1 (dck_at da_X10_addPlace 3 rfl) rfl (fun c => ?_) (fun c => ?_)
  · have h := gI_pos h c
    refine lv_aload_n X.1 X.2.1 (dck_at da_X10_addPlace 6 rfl) rfl (lv_at hl 0 rfl) ?_
    refine lv_iload_n X.1 X.2.1 (dck_at da_X10_addPlace 7 rfl) rfl (lv_at hl 1 rfl) ?_
    obtain ⟨r1, s1, hc, h⟩ := gB2_some h
    refine gr_backi Y (gr_runV (as := [.int a1]) (rest := []) X G Y (ok_c_Teams_hasPlace hc) cv_RX10_51 clC_14 ⟨Nat.le_of_ble_eq_true rfl, Nat.le_of_ble_eq_true rfl⟩ rfl hl.1 (Nat.le_of_ble_eq_true rfl) (dck_at da_X10_addPlace 8 rfl)) (fun H locs Y => ?_)
    refine lv_if_eq (tgt := 23) X.1 X.2.1 (dck_at da_X10_addPlace 9 rfl) rfl (fun c => ?_) (fun c => ?_)
    · have h := gI_pos h c
      refine lv_aload_n X.1 X.2.1 (dck_at da_X10_addPlace 12 rfl) rfl (lv_at hl 0 rfl) ?_
      refine gr_getR X G Y fk_RX10_21 clC_14 rfl (dck_at da_X10_addPlace 13 rfl) ?_
      refine lv_aload_n X.1 X.2.1 (dck_at da_X10_addPlace 14 rfl) rfl (lv_at hl 0 rfl) ?_
      refine gr_getI X G Y fk_RX10_38 clC_14 rfl (dck_at da_X10_addPlace 15 rfl) ?_
      refine lv_iload_n X.1 X.2.1 (dck_at da_X10_addPlace 16 rfl) rfl (lv_at hl 1 rfl) ?_
      obtain ⟨hin, h⟩ := gI_if h
      refine gr_iast X G Y clC_18 hin (dck_at da_X10_addPlace 17 rfl) (fun H locs Y => ?_)
      refine lv_aload_n X.1 X.2.1 (dck_at da_X10_addPlace 18 rfl) rfl (lv_at hl 0 rfl) ?_
      refine lv_dup X.1 X.2.1 (dck_at da_X10_addPlace 19 rfl) rfl ?_
      refine gr_getI X G Y fk_RX10_38 clC_14 rfl (dck_at da_X10_addPlace 20 rfl) ?_
      refine lv_dup_x1 X.1 X.2.1 (dck_at da_X10_addPlace 21 rfl) rfl rfl ?_
      refine lv_iconst X.1 X.2.1 (dck_at da_X10_addPlace 22 rfl) ki_1 ?_
      refine lv_iadd X.1 X.2.1 (dck_at da_X10_addPlace 23 rfl) ?_
      refine gr_putI X G Y fp_RX10_38 clC_14 rfl (dck_at da_X10_addPlace 24 rfl) (fun H locs Y => ?_)
      exact gr_iretO X Y h hr rfl hlk (dck_at da_X10_addPlace 25 rfl)
    · have h := gI_neg h c
      refine lv_bipush X.1 X.2.1 (dck_at da_X10_addPlace 10 rfl) kb_m2 ?_
      exact gr_iretO X Y h hr rfl hlk (dck_at da_X10_addPlace 11 rfl)
  · have h := gI_neg h c
    refine lv_bipush X.1 X.2.1 (dck_at da_X10_addPlace 4 rfl) kb_m3 ?_
    exact gr_iretO X Y h hr rfl hlk (dck_at da_X10_addPlace 5 rfl)
set_option maxRecDepth 100000 in
set_option maxHeartbeats 4000000 in
theorem ok_c_place {l : Launch} {D : va_G} {cy : Nat → ClassId} {ad sa : Nat → Nat} {A : Nat → Prop} {F : Nat} {a1 : Int32} {s0 : St} {ρ : Int32} {σ' : St} (h : c_place F a1 s0 = some (ρ, σ')) : gMi l shC D cy ad sa A yX11_place cX11_place 2 (some .int) 4 [.ref (ad 0), .int a1] s0 ρ σ' := by
  refine gM_of (by decide) (Nat.le_of_ble_eq_true rfl) ?_
  intro p e s m args below meth c ls X G Y hr hlk hl
  have hl : lv_has ls 2 [(0, .ref (ad 0)), (1, .int a1)] := hl
  unfold c_place at h
  refine lv_iload_n X.1 X.2.1 (dck_at da_X11_place 0 rfl) rfl (lv_at hl 1 rfl) ?_
  obtain ⟨r1, s1, hc, h⟩ := gB2_some h
  refine gr_backi Y (gr_runS (as := [.int a1]) (rest := []) X G Y (ok_c_isCell hc) cs_RX11_48 ⟨Nat.le_of_ble_eq_true rfl, Nat.le_of_ble_eq_true rfl⟩ rfl hl.1 (Nat.le_of_ble_eq_true rfl) (dck_at da_X11_place 1 rfl)) (fun H locs Y => ?_)
  refine lv_if_ne (tgt := 13) X.1 X.2.1 (dck_at da_X11_place 2 rfl) rfl (fun c => ?_) (fun c => ?_)
  · have h := gI_neg h c
    refine lv_aload_n X.1 X.2.1 (dck_at da_X11_place 7 rfl) rfl (lv_at hl 0 rfl) ?_
    refine lv_aload_n X.1 X.2.1 (dck_at da_X11_place 8 rfl) rfl (lv_at hl 0 rfl) ?_
    refine gr_getR X G Y fk_RX11_12 clC_0 rfl (dck_at da_X11_place 9 rfl) ?_
    refine gr_getR X G Y fk_RX11_170 clC_1 rfl (dck_at da_X11_place 10 rfl) ?_
    refine lv_iload_n X.1 X.2.1 (dck_at da_X11_place 11 rfl) rfl (lv_at hl 1 rfl) ?_
    obtain ⟨r2, s2, hc, h⟩ := gB2_some h
    refine gr_backi Y (gr_runV (as := [.int a1]) (rest := [.ref (ad 0)]) X G Y (ok_c_Teams_addPlace hc) cv_RX11_231 clC_14 ⟨Nat.le_of_ble_eq_true rfl, Nat.le_of_ble_eq_true rfl⟩ rfl hl.1 (Nat.le_of_ble_eq_true rfl) (dck_at da_X11_place 12 rfl)) (fun H locs Y => ?_)
    obtain ⟨r3, s3, hc, h⟩ := gB2_some h
    refine gr_backi Y (gr_runV (as := [.int r2]) (rest := []) X G Y (ok_c_answered hc) cv_RX11_109 clC_0 ⟨Nat.le_of_ble_eq_true rfl, Nat.le_of_ble_eq_true rfl⟩ rfl hl.1 (Nat.le_of_ble_eq_true rfl) (dck_at da_X11_place 13 rfl)) (fun H locs Y => ?_)
    exact gr_iretO X Y h hr rfl hlk (dck_at da_X11_place 14 rfl)
  · have h := gI_pos h c
    refine lv_aload_n X.1 X.2.1 (dck_at da_X11_place 3 rfl) rfl (lv_at hl 0 rfl) ?_
    refine lv_iconst X.1 X.2.1 (dck_at da_X11_place 4 rfl) ki_m1 ?_
    obtain ⟨r4, s4, hc, h⟩ := gB2_some h
    refine gr_backi Y (gr_runV (as := [.int (-1 : Int32)]) (rest := []) X G Y (ok_c_refuse hc) cv_RX11_55 clC_0 ⟨Nat.le_of_ble_eq_true rfl, Nat.le_of_ble_eq_true rfl⟩ rfl hl.1 (Nat.le_of_ble_eq_true rfl) (dck_at da_X11_place 5 rfl)) (fun H locs Y => ?_)
    exact gr_iretO X Y h hr rfl hlk (dck_at da_X11_place 6 rfl)
set_option maxRecDepth 100000 in
set_option maxHeartbeats 4000000 in
theorem ok_c_Land_rowsApart {l : Launch} {D : va_G} {cy : Nat → ClassId} {ad sa : Nat → Nat} {A : Nat → Prop} {F : Nat} {a0 : Int32} {a1 : Int32} {s0 : St} {ρ : Int32} {σ' : St} (h : c_Land_rowsApart F a0 a1 s0 = some (ρ, σ')) : gMi l shC D cy ad sa A yX3_rowsApart cX3_rowsApart 2 (some .int) 1 [.int a0, .int a1] s0 ρ σ' := by
  refine gM_of (by decide) (Nat.le_of_ble_eq_true rfl) ?_
  intro p e s m args below meth c ls X G Y hr hlk hl
  have hl : lv_has ls 2 [(0, .int a0), (1, .int a1)] := hl
  unfold c_Land_rowsApart at h
  refine lv_iload_n X.1 X.2.1 (dck_at da_X3_rowsApart 0 rfl) rfl (lv_at hl 0 rfl) ?_
  refine lv_bipush X.1 X.2.1 (dck_at da_X3_rowsApart 1 rfl) kb_12 ?_
  refine lv_idiv X.1 X.2.1 (dck_at da_X3_rowsApart 2 rfl) (by decide) ?_
  refine lv_iload_n X.1 X.2.1 (dck_at da_X3_rowsApart 3 rfl) rfl (lv_at hl 1 rfl) ?_
  refine lv_bipush X.1 X.2.1 (dck_at da_X3_rowsApart 4 rfl) kb_12 ?_
  refine lv_idiv X.1 X.2.1 (dck_at da_X3_rowsApart 5 rfl) (by decide) ?_
  refine lv_isub X.1 X.2.1 (dck_at da_X3_rowsApart 6 rfl) ?_
  refine gr_mabs X hl.1 wm_778 wm_779 wm_62 wm_780 ⟨Nat.le_of_ble_eq_true rfl, Nat.le_of_ble_eq_true rfl⟩ (dck_at da_X3_rowsApart 7 rfl) ?_
  exact gr_iretO X Y h hr rfl hlk (dck_at da_X3_rowsApart 8 rfl)
set_option maxRecDepth 100000 in
set_option maxHeartbeats 4000000 in
theorem ok_c_Land_columnsApart {l : Launch} {D : va_G} {cy : Nat → ClassId} {ad sa : Nat → Nat} {A : Nat → Prop} {F : Nat} {a0 : Int32} {a1 : Int32} {s0 : St} {ρ : Int32} {σ' : St} (h : c_Land_columnsApart F a0 a1 s0 = some (ρ, σ')) : gMi l shC D cy ad sa A yX3_columnsApart cX3_columnsApart 2 (some .int) 1 [.int a0, .int a1] s0 ρ σ' := by
  refine gM_of (by decide) (Nat.le_of_ble_eq_true rfl) ?_
  intro p e s m args below meth c ls X G Y hr hlk hl
  have hl : lv_has ls 2 [(0, .int a0), (1, .int a1)] := hl
  unfold c_Land_columnsApart at h
  refine lv_iload_n X.1 X.2.1 (dck_at da_X3_columnsApart 0 rfl) rfl (lv_at hl 0 rfl) ?_
  refine lv_bipush X.1 X.2.1 (dck_at da_X3_columnsApart 1 rfl) kb_12 ?_
  refine lv_irem X.1 X.2.1 (dck_at da_X3_columnsApart 2 rfl) (by decide) ?_
  refine lv_iload_n X.1 X.2.1 (dck_at da_X3_columnsApart 3 rfl) rfl (lv_at hl 1 rfl) ?_
  refine lv_bipush X.1 X.2.1 (dck_at da_X3_columnsApart 4 rfl) kb_12 ?_
  refine lv_irem X.1 X.2.1 (dck_at da_X3_columnsApart 5 rfl) (by decide) ?_
  refine lv_isub X.1 X.2.1 (dck_at da_X3_columnsApart 6 rfl) ?_
  refine gr_mabs X hl.1 wm_778 wm_779 wm_62 wm_780 ⟨Nat.le_of_ble_eq_true rfl, Nat.le_of_ble_eq_true rfl⟩ (dck_at da_X3_columnsApart 7 rfl) ?_
  exact gr_iretO X Y h hr rfl hlk (dck_at da_X3_columnsApart 8 rfl)
set_option maxRecDepth 100000 in
set_option maxHeartbeats 4000000 in
theorem ok_c_State_worth {l : Launch} {D : va_G} {cy : Nat → ClassId} {ad sa : Nat → Nat} {A : Nat → Prop} {F : Nat} {a1 : Int32} {a2 : Int32} {a3 : Int32} {a4 : Int32} {s0 : St} {ρ : Int64} {σ' : St} (h : c_State_worth F a1 a2 a3 a4 s0 = some (ρ, σ')) : gMl l shC D cy ad sa A yX8_worth cX8_worth 5 (some .long) 3 [.ref (ad 1), .int a1, .int a2, .int a3, .int a4] s0 ρ σ' := by
  refine gM_of (by decide) (Nat.le_of_ble_eq_true rfl) ?_
  intro p e s m args below meth c ls X G Y hr hlk hl
  have hl : lv_has ls 5 [(0, .ref (ad 1)), (1, .int a1), (2, .int a2), (3, .int a3), (4, .int a4)] := hl
  unfold c_State_worth at h
  refine lv_aload_n X.1 X.2.1 (dck_at da_X8_worth 0 rfl) rfl (lv_at hl 0 rfl) ?_
  refine lv_iload_n X.1 X.2.1 (dck_at da_X8_worth 1 rfl) rfl (lv_at hl 1 rfl) ?_
  refine lv_iload_n X.1 X.2.1 (dck_at da_X8_worth 2 rfl) rfl (lv_at hl 2 rfl) ?_
  refine lv_iload_n X.1 X.2.1 (dck_at da_X8_worth 3 rfl) rfl (lv_at hl 3 rfl) ?_
  obtain ⟨r1, s1, hc, h⟩ := gB2_some h
  refine gr_backl Y (gr_runV (as := [.int a1, .int a2, .int a3]) (rest := []) X G Y (ok_c_State_seen hc) cv_RX8_94 clC_1 ⟨Nat.le_of_ble_eq_true rfl, Nat.le_of_ble_eq_true rfl⟩ rfl hl.1 (Nat.le_of_ble_eq_true rfl) (dck_at da_X8_worth 4 rfl)) (fun H locs Y => ?_)
  refine lv_aload_n X.1 X.2.1 (dck_at da_X8_worth 5 rfl) rfl (lv_at hl 0 rfl) ?_
  refine gr_getR X G Y fk_RX8_21 clC_1 rfl (dck_at da_X8_worth 6 rfl) ?_
  refine lv_iload X.1 X.2.1 (dck_at da_X8_worth 7 rfl) (lv_at hl 4 rfl) ?_
  obtain ⟨r2, s2, hc, h⟩ := gB2_some h
  refine gr_backi Y (gr_runV (as := [.int a4]) (rest := [.long r1]) X G Y (ok_c_Law_livingAt hc) cv_RX8_95 clC_6 ⟨Nat.le_of_ble_eq_true rfl, Nat.le_of_ble_eq_true rfl⟩ rfl hl.1 (Nat.le_of_ble_eq_true rfl) (dck_at da_X8_worth 8 rfl)) (fun H locs Y => ?_)
  refine lv_i2l (v := (r2).toInt64) X.1 X.2.1 (dck_at da_X8_worth 9 rfl) rfl ?_
  refine lv_lmul X.1 X.2.1 (dck_at da_X8_worth 10 rfl) ?_
  exact gr_lretO X Y h hr hlk (dck_at da_X8_worth 11 rfl)
set_option maxRecDepth 100000 in
set_option maxHeartbeats 4000000 in
theorem ok_c_Teams_weigh {l : Launch} {D : va_G} {cy : Nat → ClassId} {ad sa : Nat → Nat} {A : Nat → Prop} {F : Nat}  {s0 : St} {σ' : St} (h : c_Teams_weigh F s0 = some σ') : gMv l shC D cy ad sa A yX10_weigh cX10_weigh 6 none 4 [.ref (ad 14), .ref (ad 1)] s0 σ' := by
  refine gM_of (by decide) (Nat.le_of_ble_eq_true rfl) ?_
  intro p e s m args below meth c ls X G Y hr hlk hl
  have hl : lv_has ls 6 [(0, .ref (ad 14)), (1, .ref (ad 1))] := hl
  have b2 : ∀ n : Nat, ∀ (x2 : Int32) (s0 : St) (H : Heap) (locs : List Loc) (ls : Array Slot), c_Teams_weigh_L2 F  n x2 s0 = some σ' → gY shC D cy ad A s0 s H locs → lv_has ls 6 [(0, .ref (ad 14)), (1, .ref (ad 1)), (2, .int x2)] → W p l e (grm 4) s m args below meth c H locs 0 0 (MQ below (va_Qv (fun (_ : Unit) => True) (fun _ t => va_P D vwCl (gWl shC cy ad σ') t.heap) A) args s 0 0 A) (F0 m 2 ls []) := by
    intro n
    induction n with
    | zero => intro x2 s0 H locs ls h Y hl; exact (gnone h).elim
    | succ n hk2 =>
      have e : c_Teams_weigh_L2 F  (n + 1) = c_Teams_weigh_L2b F  (c_Teams_weigh_L2 F  n) := rfl
      rw [e]; clear e
      generalize c_Teams_weigh_L2 F  n = k2 at hk2 ⊢
      have b12 : ∀ n : Nat, ∀ (x2 : Int32) (x3 : Int32) (s0 : St) (H : Heap) (locs : List Loc) (ls : Array Slot), c_Teams_weigh_L12 F k2 n x2 x3 s0 = some σ' → gY shC D cy ad A s0 s H locs → lv_has ls 6 [(0, .ref (ad 14)), (1, .ref (ad 1)), (2, .int x2), (3, .int x3)] → W p l e (grm 4) s m args below meth c H locs 0 0 (MQ below (va_Qv (fun (_ : Unit) => True) (fun _ t => va_P D vwCl (gWl shC cy ad σ') t.heap) A) args s 0 0 A) (F0 m 12 ls []) := by
        intro n
        induction n with
        | zero => intro x2 x3 s0 H locs ls h Y hl; exact (gnone h).elim
        | succ n hk12 =>
          have e : c_Teams_weigh_L12 F k2 (n + 1) = c_Teams_weigh_L12b F k2 (c_Teams_weigh_L12 F k2 n) := rfl
          rw [e]; clear e
          generalize c_Teams_weigh_L12 F k2 n = k12 at hk12 ⊢
          intro x2 x3 s0 H locs ls h Y hl
          unfold c_Teams_weigh_L12b at h
          refine lv_iload_n X.1 X.2.1 (dck_at da_X10_weigh 8 rfl) rfl (lv_at hl 3 rfl) ?_
          refine lv_aload_n X.1 X.2.1 (dck_at da_X10_weigh 9 rfl) rfl (lv_at hl 0 rfl) ?_
          refine gr_getI X G Y fk_RX10_38 clC_14 rfl (dck_at da_X10_weigh 10 rfl) ?_
          refine lv_icmp_ge (tgt := 109) X.1 X.2.1 (dck_at da_X10_weigh 11 rfl) rfl (fun c => ?_) (fun c => ?_)
          · have h := gI_pos h c
            refine lv_iinc (v := x2 + (1 : Int32)) (lv' := [(2, .int (x2 + (1 : Int32))), (0, .ref (ad 14)), (1, .ref (ad 1)), (3, .int x3)]) X.1 X.2.1 (dck_at da_X10_weigh 65 rfl) hl (k := 2) rfl (congrArg (HAdd.hAdd _) ki_1) (by decide) rfl (fun ls hl => ?_)
            refine lv_goto (tgt := 2) X.1 X.2.1 (dck_at da_X10_weigh 66 rfl) rfl ?_
            exact hk2 (x2 + (1 : Int32)) s0 _ _ _ h Y (lv_sub hl [1, 2, 0] rfl)
          · have h := gI_neg h c
            refine lv_aload_n X.1 X.2.1 (dck_at da_X10_weigh 12 rfl) rfl (lv_at hl 0 rfl) ?_
            refine gr_getR X G Y fk_RX10_15 clC_14 rfl (dck_at da_X10_weigh 13 rfl) ?_
            refine lv_iload_n X.1 X.2.1 (dck_at da_X10_weigh 14 rfl) rfl (lv_at hl 2 rfl) ?_
            obtain ⟨hin, h⟩ := gI_if h
            refine gr_iald X G Y clC_16 hin (dck_at da_X10_weigh 15 rfl) ?_
            refine lv_aload_n X.1 X.2.1 (dck_at da_X10_weigh 16 rfl) rfl (lv_at hl 0 rfl) ?_
            refine gr_getR X G Y fk_RX10_21 clC_14 rfl (dck_at da_X10_weigh 17 rfl) ?_
            refine lv_iload_n X.1 X.2.1 (dck_at da_X10_weigh 18 rfl) rfl (lv_at hl 3 rfl) ?_
            obtain ⟨hin, h⟩ := gI_if h
            refine gr_iald X G Y clC_18 hin (dck_at da_X10_weigh 19 rfl) ?_
            obtain ⟨r1, s1, hc, h⟩ := gB2_some h
            refine gr_backi Y (gr_runS (as := [.int (s0.1 16 (x2).toNatClampNeg), .int (s0.1 18 (x3).toNatClampNeg)]) (rest := []) X G Y (ok_c_Land_rowsApart hc) cs_RX10_55 ⟨Nat.le_of_ble_eq_true rfl, Nat.le_of_ble_eq_true rfl⟩ rfl hl.1 (Nat.le_of_ble_eq_true rfl) (dck_at da_X10_weigh 20 rfl)) (fun H locs Y => ?_)
            refine lv_aload_n X.1 X.2.1 (dck_at da_X10_weigh 21 rfl) rfl (lv_at hl 0 rfl) ?_
            refine gr_getR X G Y fk_RX10_15 clC_14 rfl (dck_at da_X10_weigh 22 rfl) ?_
            refine lv_iload_n X.1 X.2.1 (dck_at da_X10_weigh 23 rfl) rfl (lv_at hl 2 rfl) ?_
            obtain ⟨hin, h⟩ := gI_if h
            refine gr_iald X G Y clC_16 hin (dck_at da_X10_weigh 24 rfl) ?_
            refine lv_aload_n X.1 X.2.1 (dck_at da_X10_weigh 25 rfl) rfl (lv_at hl 0 rfl) ?_
            refine gr_getR X G Y fk_RX10_21 clC_14 rfl (dck_at da_X10_weigh 26 rfl) ?_
            refine lv_iload_n X.1 X.2.1 (dck_at da_X10_weigh 27 rfl) rfl (lv_at hl 3 rfl) ?_
            obtain ⟨hin, h⟩ := gI_if h
            refine gr_iald X G Y clC_18 hin (dck_at da_X10_weigh 28 rfl) ?_
            obtain ⟨r2, s2, hc, h⟩ := gB2_some h
            refine gr_backi Y (gr_runS (as := [.int (s1.1 16 (x2).toNatClampNeg), .int (s1.1 18 (x3).toNatClampNeg)]) (rest := [.int r1]) X G Y (ok_c_Land_columnsApart hc) cs_RX10_61 ⟨Nat.le_of_ble_eq_true rfl, Nat.le_of_ble_eq_true rfl⟩ rfl hl.1 (Nat.le_of_ble_eq_true rfl) (dck_at da_X10_weigh 29 rfl)) (fun H locs Y => ?_)
            refine lv_iadd X.1 X.2.1 (dck_at da_X10_weigh 30 rfl) ?_
            refine lv_istore (lv' := [(4, .int (r1 + r2)), (0, .ref (ad 14)), (1, .ref (ad 1)), (2, .int x2), (3, .int x3)]) X.1 X.2.1 (dck_at da_X10_weigh 31 rfl) hl (by decide) rfl (fun ls hl => ?_)
            refine lv_aload_n X.1 X.2.1 (dck_at da_X10_weigh 32 rfl) rfl (lv_at hl 2 rfl) ?_
            refine gr_getR X G Y fk_RX10_64 clC_1 rfl (dck_at da_X10_weigh 33 rfl) ?_
            refine gr_getI X G Y fk_RX10_70 clC_9 rfl (dck_at da_X10_weigh 34 rfl) ?_
            refine lv_aload_n X.1 X.2.1 (dck_at da_X10_weigh 35 rfl) rfl (lv_at hl 1 rfl) ?_
            refine gr_getR X G Y fk_RX10_18 clC_14 rfl (dck_at da_X10_weigh 36 rfl) ?_
            refine lv_iload_n X.1 X.2.1 (dck_at da_X10_weigh 37 rfl) rfl (lv_at hl 3 rfl) ?_
            obtain ⟨hin, h⟩ := gI_if h
            refine gr_iald X G Y clC_17 hin (dck_at da_X10_weigh 38 rfl) ?_
            refine lv_iload X.1 X.2.1 (dck_at da_X10_weigh 39 rfl) (lv_at hl 0 rfl) ?_
            refine lv_imul X.1 X.2.1 (dck_at da_X10_weigh 40 rfl) ?_
            refine lv_iadd X.1 X.2.1 (dck_at da_X10_weigh 41 rfl) ?_
            refine lv_istore (lv' := [(5, .int ((s2.1 9 4) + ((s2.1 17 (x2).toNatClampNeg) * (r1 + r2)))), (4, .int (r1 + r2)), (0, .ref (ad 14)), (1, .ref (ad 1)), (2, .int x2), (3, .int x3)]) X.1 X.2.1 (dck_at da_X10_weigh 42 rfl) hl (by decide) rfl (fun ls hl => ?_)
            refine lv_aload_n X.1 X.2.1 (dck_at da_X10_weigh 43 rfl) rfl (lv_at hl 2 rfl) ?_
            refine gr_getR X G Y fk_RX10_24 clC_14 rfl (dck_at da_X10_weigh 44 rfl) ?_
            refine lv_iload_n X.1 X.2.1 (dck_at da_X10_weigh 45 rfl) rfl (lv_at hl 4 rfl) ?_
            refine lv_bipush X.1 X.2.1 (dck_at da_X10_weigh 46 rfl) kb_6 ?_
            refine lv_imul X.1 X.2.1 (dck_at da_X10_weigh 47 rfl) ?_
            refine lv_iload_n X.1 X.2.1 (dck_at da_X10_weigh 48 rfl) rfl (lv_at hl 5 rfl) ?_
            refine lv_iadd X.1 X.2.1 (dck_at da_X10_weigh 49 rfl) ?_
            refine lv_aload_n X.1 X.2.1 (dck_at da_X10_weigh 50 rfl) rfl (lv_at hl 3 rfl) ?_
            refine lv_aload_n X.1 X.2.1 (dck_at da_X10_weigh 51 rfl) rfl (lv_at hl 2 rfl) ?_
            refine gr_getR X G Y fk_RX10_11 clC_14 rfl (dck_at da_X10_weigh 52 rfl) ?_
            refine lv_iload_n X.1 X.2.1 (dck_at da_X10_weigh 53 rfl) rfl (lv_at hl 4 rfl) ?_
            obtain ⟨hin, h⟩ := gI_if h
            refine gr_iald X G Y clC_15 hin (dck_at da_X10_weigh 54 rfl) ?_
            refine lv_aload_n X.1 X.2.1 (dck_at da_X10_weigh 55 rfl) rfl (lv_at hl 2 rfl) ?_
            refine gr_getR X G Y fk_RX10_21 clC_14 rfl (dck_at da_X10_weigh 56 rfl) ?_
            refine lv_iload_n X.1 X.2.1 (dck_at da_X10_weigh 57 rfl) rfl (lv_at hl 5 rfl) ?_
            obtain ⟨hin, h⟩ := gI_if h
            refine gr_iald X G Y clC_18 hin (dck_at da_X10_weigh 58 rfl) ?_
            refine lv_iload X.1 X.2.1 (dck_at da_X10_weigh 59 rfl) (lv_at hl 0 rfl) ?_
            refine lv_iload X.1 X.2.1 (dck_at da_X10_weigh 60 rfl) (lv_at hl 0 rfl) ?_
            obtain ⟨r3, s3, hc, h⟩ := gB2_some h
            refine gr_backl Y (gr_runV (as := [.int (s2.1 15 (x2).toNatClampNeg), .int (s2.1 18 (x3).toNatClampNeg), .int ((s2.1 9 4) + ((s2.1 17 (x2).toNatClampNeg) * (r1 + r2))), .int ((s2.1 9 4) + ((s2.1 17 (x2).toNatClampNeg) * (r1 + r2)))]) (rest := [.int ((x2 * (6 : Int32)) + x3), .ref (ad 19)]) X G Y (ok_c_State_worth hc) cv_RX10_75 clC_1 ⟨Nat.le_of_ble_eq_true rfl, Nat.le_of_ble_eq_true rfl⟩ rfl hl.1 (Nat.le_of_ble_eq_true rfl) (dck_at da_X10_weigh 61 rfl)) (fun H locs Y => ?_)
            obtain ⟨hin, h⟩ := gI_if h
            refine gr_last X G Y clC_19 hin (dck_at da_X10_weigh 62 rfl) (fun H locs Y => ?_)
            refine lv_iinc (v := x3 + (1 : Int32)) (lv' := [(3, .int (x3 + (1 : Int32))), (5, .int ((s2.1 9 4) + ((s2.1 17 (x2).toNatClampNeg) * (r1 + r2)))), (4, .int (r1 + r2)), (0, .ref (ad 14)), (1, .ref (ad 1)), (2, .int x2)]) X.1 X.2.1 (dck_at da_X10_weigh 63 rfl) hl (k := 5) rfl (congrArg (HAdd.hAdd _) ki_1) (by decide) rfl (fun ls hl => ?_)
            refine lv_goto (tgt := 12) X.1 X.2.1 (dck_at da_X10_weigh 64 rfl) rfl ?_
            exact hk12 x2 (x3 + (1 : Int32)) (sJ s3 19 ((x2 * (6 : Int32)) + x3).toNatClampNeg r3) _ _ _ h Y (lv_sub hl [3, 4, 5, 0] rfl)
      intro x2 s0 H locs ls h Y hl
      unfold c_Teams_weigh_L2b at h
      refine lv_iload_n X.1 X.2.1 (dck_at da_X10_weigh 2 rfl) rfl (lv_at hl 2 rfl) ?_
      refine lv_aload_n X.1 X.2.1 (dck_at da_X10_weigh 3 rfl) rfl (lv_at hl 0 rfl) ?_
      refine gr_getI X G Y fk_RX10_34 clC_14 rfl (dck_at da_X10_weigh 4 rfl) ?_
      refine lv_icmp_ge (tgt := 115) X.1 X.2.1 (dck_at da_X10_weigh 5 rfl) rfl (fun c => ?_) (fun c => ?_)
      · have h := gI_pos h c
        exact gr_vretO X Y h hr hlk (dck_at da_X10_weigh 67 rfl)
      · have h := gI_neg h c
        refine lv_iconst X.1 X.2.1 (dck_at da_X10_weigh 6 rfl) ki_0 ?_
        refine lv_istore_n (lv' := [(3, .int (0 : Int32)), (0, .ref (ad 14)), (1, .ref (ad 1)), (2, .int x2)]) X.1 X.2.1 (dck_at da_X10_weigh 7 rfl) rfl hl (by decide) rfl (fun ls hl => ?_)
        exact b12 F x2 (0 : Int32) s0 _ _ _ h Y (lv_sub hl [1, 2, 3, 0] rfl)
  unfold c_Teams_weigh at h
  refine lv_iconst X.1 X.2.1 (dck_at da_X10_weigh 0 rfl) ki_0 ?_
  refine lv_istore_n (lv' := [(2, .int (0 : Int32)), (0, .ref (ad 14)), (1, .ref (ad 1))]) X.1 X.2.1 (dck_at da_X10_weigh 1 rfl) rfl hl (by decide) rfl (fun ls hl => ?_)
  exact b2 F (0 : Int32) s0 _ _ _ h Y (lv_sub hl [1, 2, 0] rfl)
set_option maxRecDepth 100000 in
set_option maxHeartbeats 4000000 in
theorem ok_c_Teams_send_r {l : Launch} {D : va_G} {cy : Nat → ClassId} {ad sa : Nat → Nat} {A : Nat → Prop} {F : Nat} : ∀ (n : Nat) (a1 : Int32) (a2 : Int32) (a3 : Int64) (s0 : St) (σ' : St), c_Teams_send F n a1 a2 a3 s0 = some σ' → gMv l shC D cy ad sa A yX10_send cX10_send 6 none (1 + n) [.ref (ad 14), .int a1, .int a2, .long a3] s0 σ' := by
  intro n
  induction n
  case zero =>
    intro a1 a2 a3 s0 σ' h
    exact (gnone h).elim
  rename_i N ih
  intro a1 a2 a3 s0 σ' h
  have e : c_Teams_send F (N + 1) = c_Teams_send_b F (c_Teams_send F N) := rfl
  rw [e] at h; clear e
  generalize c_Teams_send F N = self at h ih
  refine gM_of (by decide) (Nat.le_of_ble_eq_true rfl) ?_
  intro p e s m args below meth c ls X G Y hr hlk hl
  have hl : lv_has ls 6 [(0, .ref (ad 14)), (1, .int a1), (2, .int a2), (3, .long a3)] := hl
  have b40 : ∀ n : Nat, ∀ (x1 : Int32) (x2 : Int32) (x3 : Int64) (x5 : Int32) (s0 : St) (H : Heap) (locs : List Loc) (ls : Array Slot), c_Teams_send_L40 F self  n x1 x2 x3 x5 s0 = some σ' → gY shC D cy ad A s0 s H locs → lv_has ls 6 [(0, .ref (ad 14)), (1, .int x1), (2, .int x2), (3, .long x3), (5, .int x5)] → W p l e (grm (1 + (N + 1))) s m args below meth c H locs 0 0 (MQ below (va_Qv (fun (_ : Unit) => True) (fun _ t => va_P D vwCl (gWl shC cy ad σ') t.heap) A) args s 0 0 A) (F0 m 40 ls []) := by
    intro n
    induction n with
    | zero => intro x1 x2 x3 x5 s0 H locs ls h Y hl; exact (gnone h).elim
    | succ n hk40 =>
      have e : c_Teams_send_L40 F self  (n + 1) = c_Teams_send_L40b F self  (c_Teams_send_L40 F self  n) := rfl
      rw [e]; clear e
      generalize c_Teams_send_L40 F self  n = k40 at hk40 ⊢
      have b96 : ∀ (x1 : Int32) (x2 : Int32) (x3 : Int64) (x5 : Int32) (s0 : St) (H : Heap) (locs : List Loc) (ls : Array Slot), c_Teams_send_J96 F self k40 x1 x2 x3 x5 s0 = some σ' → gY shC D cy ad A s0 s H locs → lv_has ls 6 [(0, .ref (ad 14)), (1, .int x1), (2, .int x2), (3, .long x3), (5, .int x5)] → W p l e (grm (1 + (N + 1))) s m args below meth c H locs 0 0 (MQ below (va_Qv (fun (_ : Unit) => True) (fun _ t => va_P D vwCl (gWl shC cy ad σ') t.heap) A) args s 0 0 A) (F0 m 96 ls []) := by
        intro x1 x2 x3 x5 s0 H locs ls h Y hl
        unfold c_Teams_send_J96 at h
        refine lv_iinc (v := x5 + (1 : Int32)) (lv' := [(5, .int (x5 + (1 : Int32))), (0, .ref (ad 14)), (1, .int x1), (2, .int x2), (3, .long x3)]) X.1 X.2.1 (dck_at da_X10_send 59 rfl) hl (k := 4) rfl (congrArg (HAdd.hAdd _) ki_1) (by decide) rfl (fun ls hl => ?_)
        refine lv_goto (tgt := 40) X.1 X.2.1 (dck_at da_X10_send 60 rfl) rfl ?_
        exact hk40 x1 x2 x3 (x5 + (1 : Int32)) s0 _ _ _ h Y (lv_sub hl [1, 2, 3, 4, 0] rfl)
      intro x1 x2 x3 x5 s0 H locs ls h Y hl
      unfold c_Teams_send_L40b at h
      refine lv_iload X.1 X.2.1 (dck_at da_X10_send 23 rfl) (lv_at hl 4 rfl) ?_
      refine lv_aload_n X.1 X.2.1 (dck_at da_X10_send 24 rfl) rfl (lv_at hl 0 rfl) ?_
      refine gr_getI X G Y fk_RX10_38 clC_14 rfl (dck_at da_X10_send 25 rfl) ?_
      refine lv_icmp_ge (tgt := 102) X.1 X.2.1 (dck_at da_X10_send 26 rfl) rfl (fun c => ?_) (fun c => ?_)
      · have h := gI_pos h c
        refine lv_aload_n X.1 X.2.1 (dck_at da_X10_send 61 rfl) rfl (lv_at hl 0 rfl) ?_
        refine gr_getR X G Y fk_RX10_28 clC_14 rfl (dck_at da_X10_send 62 rfl) ?_
        refine lv_iload_n X.1 X.2.1 (dck_at da_X10_send 63 rfl) rfl (lv_at hl 1 rfl) ?_
        refine lv_bipush X.1 X.2.1 (dck_at da_X10_send 64 rfl) kb_6 ?_
        obtain ⟨hin, h⟩ := gI_if h
        refine gr_iast X G Y clC_20 hin (dck_at da_X10_send 65 rfl) (fun H locs Y => ?_)
        refine lv_aload_n X.1 X.2.1 (dck_at da_X10_send 66 rfl) rfl (lv_at hl 0 rfl) ?_
        refine lv_iload_n X.1 X.2.1 (dck_at da_X10_send 67 rfl) rfl (lv_at hl 1 rfl) ?_
        refine lv_iconst X.1 X.2.1 (dck_at da_X10_send 68 rfl) ki_1 ?_
        refine lv_iadd X.1 X.2.1 (dck_at da_X10_send 69 rfl) ?_
        refine lv_iload_n X.1 X.2.1 (dck_at da_X10_send 70 rfl) rfl (lv_at hl 2 rfl) ?_
        refine lv_lload_n X.1 X.2.1 (dck_at da_X10_send 71 rfl) rfl (lv_at hl 3 rfl) ?_
        obtain ⟨s1, hc, h⟩ := gB_some h
        refine gr_backv Y (gr_runV (as := [.int (x1 + (1 : Int32)), .int x2, .long x3]) (rest := []) X G Y (ih (x1 + (1 : Int32)) x2 x3 (sI s0 20 (x1).toNatClampNeg (6 : Int32)) _ hc) cv_RX10_85 clC_14 (by constructor <;> simp only [grm] <;> omega) rfl hl.1 (Nat.le_of_ble_eq_true rfl) (dck_at da_X10_send 72 rfl)) (fun H locs Y => ?_)
        exact gr_vretO X Y h hr hlk (dck_at da_X10_send 73 rfl)
      · have h := gI_neg h c
        refine lv_iload_n X.1 X.2.1 (dck_at da_X10_send 27 rfl) rfl (lv_at hl 2 rfl) ?_
        refine lv_iconst X.1 X.2.1 (dck_at da_X10_send 28 rfl) ki_1 ?_
        refine lv_iload X.1 X.2.1 (dck_at da_X10_send 29 rfl) (lv_at hl 4 rfl) ?_
        refine lv_ishl X.1 X.2.1 (dck_at da_X10_send 30 rfl) ?_
        refine lv_iand X.1 X.2.1 (dck_at da_X10_send 31 rfl) ?_
        refine lv_if_eq (tgt := 61) X.1 X.2.1 (dck_at da_X10_send 32 rfl) rfl (fun c => ?_) (fun c => ?_)
        · have h := gI_pos h c
          refine lv_aload_n X.1 X.2.1 (dck_at da_X10_send 34 rfl) rfl (lv_at hl 0 rfl) ?_
          refine gr_getR X G Y fk_RX10_28 clC_14 rfl (dck_at da_X10_send 35 rfl) ?_
          refine lv_iload_n X.1 X.2.1 (dck_at da_X10_send 36 rfl) rfl (lv_at hl 1 rfl) ?_
          refine lv_iload X.1 X.2.1 (dck_at da_X10_send 37 rfl) (lv_at hl 4 rfl) ?_
          obtain ⟨hin, h⟩ := gI_if h
          refine gr_iast X G Y clC_20 hin (dck_at da_X10_send 38 rfl) (fun H locs Y => ?_)
          refine lv_aload_n X.1 X.2.1 (dck_at da_X10_send 39 rfl) rfl (lv_at hl 0 rfl) ?_
          refine lv_iload_n X.1 X.2.1 (dck_at da_X10_send 40 rfl) rfl (lv_at hl 1 rfl) ?_
          refine lv_iconst X.1 X.2.1 (dck_at da_X10_send 41 rfl) ki_1 ?_
          refine lv_iadd X.1 X.2.1 (dck_at da_X10_send 42 rfl) ?_
          refine lv_iload_n X.1 X.2.1 (dck_at da_X10_send 43 rfl) rfl (lv_at hl 2 rfl) ?_
          refine lv_iconst X.1 X.2.1 (dck_at da_X10_send 44 rfl) ki_1 ?_
          refine lv_iload X.1 X.2.1 (dck_at da_X10_send 45 rfl) (lv_at hl 4 rfl) ?_
          refine lv_ishl X.1 X.2.1 (dck_at da_X10_send 46 rfl) ?_
          refine lv_ior X.1 X.2.1 (dck_at da_X10_send 47 rfl) ?_
          refine lv_lload_n X.1 X.2.1 (dck_at da_X10_send 48 rfl) rfl (lv_at hl 3 rfl) ?_
          refine lv_aload_n X.1 X.2.1 (dck_at da_X10_send 49 rfl) rfl (lv_at hl 0 rfl) ?_
          refine gr_getR X G Y fk_RX10_24 clC_14 rfl (dck_at da_X10_send 50 rfl) ?_
          refine lv_iload_n X.1 X.2.1 (dck_at da_X10_send 51 rfl) rfl (lv_at hl 1 rfl) ?_
          refine lv_bipush X.1 X.2.1 (dck_at da_X10_send 52 rfl) kb_6 ?_
          refine lv_imul X.1 X.2.1 (dck_at da_X10_send 53 rfl) ?_
          refine lv_iload X.1 X.2.1 (dck_at da_X10_send 54 rfl) (lv_at hl 4 rfl) ?_
          refine lv_iadd X.1 X.2.1 (dck_at da_X10_send 55 rfl) ?_
          obtain ⟨hin, h⟩ := gI_if h
          refine gr_lald X G Y clC_19 hin (dck_at da_X10_send 56 rfl) ?_
          refine lv_ladd X.1 X.2.1 (dck_at da_X10_send 57 rfl) ?_
          obtain ⟨s2, hc, h⟩ := gB_some h
          refine gr_backv Y (gr_runV (as := [.int (x1 + (1 : Int32)), .int (x2 ||| ((1 : Int32) <<< (x5 &&& 31))), .long (x3 + ((sI s0 20 (x1).toNatClampNeg x5).2 19 ((x1 * (6 : Int32)) + x5).toNatClampNeg))]) (rest := []) X G Y (ih (x1 + (1 : Int32)) (x2 ||| ((1 : Int32) <<< (x5 &&& 31))) (x3 + ((sI s0 20 (x1).toNatClampNeg x5).2 19 ((x1 * (6 : Int32)) + x5).toNatClampNeg)) (sI s0 20 (x1).toNatClampNeg x5) _ hc) cv_RX10_85 clC_14 (by constructor <;> simp only [grm] <;> omega) rfl hl.1 (Nat.le_of_ble_eq_true rfl) (dck_at da_X10_send 58 rfl)) (fun H locs Y => ?_)
          exact b96 x1 x2 x3 x5 s2 _ _ _ h Y (lv_sub hl [0, 1, 2, 3, 4] rfl)
        · have h := gI_neg h c
          refine lv_goto (tgt := 96) X.1 X.2.1 (dck_at da_X10_send 33 rfl) rfl ?_
          exact b96 x1 x2 x3 x5 s0 _ _ _ h Y (lv_sub hl [0, 1, 2, 3, 4] rfl)
  unfold c_Teams_send_b at h
  refine lv_iload_n X.1 X.2.1 (dck_at da_X10_send 0 rfl) rfl (lv_at hl 1 rfl) ?_
  refine lv_aload_n X.1 X.2.1 (dck_at da_X10_send 1 rfl) rfl (lv_at hl 0 rfl) ?_
  refine gr_getI X G Y fk_RX10_34 clC_14 rfl (dck_at da_X10_send 2 rfl) ?_
  refine lv_icmp_lt (tgt := 37) X.1 X.2.1 (dck_at da_X10_send 3 rfl) rfl (fun c => ?_) (fun c => ?_)
  · have h := gI_pos h c
    refine lv_iconst X.1 X.2.1 (dck_at da_X10_send 21 rfl) ki_0 ?_
    refine lv_istore (lv' := [(5, .int (0 : Int32)), (0, .ref (ad 14)), (1, .int a1), (2, .int a2), (3, .long a3)]) X.1 X.2.1 (dck_at da_X10_send 22 rfl) hl (by decide) rfl (fun ls hl => ?_)
    exact b40 F a1 a2 a3 (0 : Int32) s0 _ _ _ h Y (lv_sub hl [1, 2, 3, 4, 0] rfl)
  · have h := gI_neg h c
    refine lv_lload_n X.1 X.2.1 (dck_at da_X10_send 4 rfl) rfl (lv_at hl 3 rfl) ?_
    refine lv_aload_n X.1 X.2.1 (dck_at da_X10_send 5 rfl) rfl (lv_at hl 0 rfl) ?_
    refine gr_getJ X G Y fk_RX10_41 clC_14 rfl (dck_at da_X10_send 6 rfl) ?_
    refine W.lcmp X.1 X.2.1 (dck_at da_X10_send 7 rfl) ?_
    refine lv_if_le (tgt := 36) X.1 X.2.1 (dck_at da_X10_send 8 rfl) rfl (fun c => ?_) (fun c => ?_)
    · have h := gI_pos h c
      exact gr_vretO X Y h hr hlk (dck_at da_X10_send 20 rfl)
    · have h := gI_neg h c
      refine lv_aload_n X.1 X.2.1 (dck_at da_X10_send 9 rfl) rfl (lv_at hl 0 rfl) ?_
      refine lv_lload_n X.1 X.2.1 (dck_at da_X10_send 10 rfl) rfl (lv_at hl 3 rfl) ?_
      refine gr_putJ X G Y fp_RX10_41 clC_14 rfl (dck_at da_X10_send 11 rfl) (fun H locs Y => ?_)
      refine lv_aload_n X.1 X.2.1 (dck_at da_X10_send 12 rfl) rfl (lv_at hl 0 rfl) ?_
      refine gr_getR X G Y fk_RX10_28 clC_14 rfl (dck_at da_X10_send 13 rfl) ?_
      refine lv_iconst X.1 X.2.1 (dck_at da_X10_send 14 rfl) ki_0 ?_
      refine lv_aload_n X.1 X.2.1 (dck_at da_X10_send 15 rfl) rfl (lv_at hl 0 rfl) ?_
      refine gr_getR X G Y fk_RX10_31 clC_14 rfl (dck_at da_X10_send 16 rfl) ?_
      refine lv_iconst X.1 X.2.1 (dck_at da_X10_send 17 rfl) ki_0 ?_
      refine lv_iconst X.1 X.2.1 (dck_at da_X10_send 18 rfl) ki_4 ?_
      obtain ⟨hin, h⟩ := gI_if h
      refine gr_cpI X G Y hl.1 wm_794 ⟨wm_652, wm_651, wm_67⟩ clC_20 clC_21 hin ⟨by simp only [grm]; omega, Nat.le_trans (m := 40) (by decide +kernel) (by simp only [grm]; omega)⟩ (dck_at da_X10_send 19 rfl) (fun H locs Y => ?_)
      exact gr_vretO X Y h hr hlk (dck_at da_X10_send 20 rfl)
theorem ok_c_Teams_send {l : Launch} {D : va_G} {cy : Nat → ClassId} {ad sa : Nat → Nat} {A : Nat → Prop} {F : Nat} {a1 : Int32} {a2 : Int32} {a3 : Int64} {s0 : St} {σ' : St} (h : c_Teams_send F 5 a1 a2 a3 s0 = some σ') : gMv l shC D cy ad sa A yX10_send cX10_send 6 none 6 [.ref (ad 14), .int a1, .int a2, .long a3] s0 σ' := ok_c_Teams_send_r 5 _ _ _ _ _ h
set_option maxRecDepth 100000 in
set_option maxHeartbeats 4000000 in
theorem ok_c_Teams_choose {l : Launch} {D : va_G} {cy : Nat → ClassId} {ad sa : Nat → Nat} {A : Nat → Prop} {F : Nat}  {s0 : St} {σ' : St} (h : c_Teams_choose F s0 = some σ') : gMv l shC D cy ad sa A yX10_choose cX10_choose 2 none 7 [.ref (ad 14), .ref (ad 1)] s0 σ' := by
  refine gM_of (by decide) (Nat.le_of_ble_eq_true rfl) ?_
  intro p e s m args below meth c ls X G Y hr hlk hl
  have hl : lv_has ls 2 [(0, .ref (ad 14)), (1, .ref (ad 1))] := hl
  unfold c_Teams_choose at h
  refine lv_aload_n X.1 X.2.1 (dck_at da_X10_choose 0 rfl) rfl (lv_at hl 0 rfl) ?_
  refine lv_aload_n X.1 X.2.1 (dck_at da_X10_choose 1 rfl) rfl (lv_at hl 1 rfl) ?_
  obtain ⟨s1, hc, h⟩ := gB_some h
  refine gr_backv Y (gr_runV (as := [.ref (ad 1)]) (rest := []) X G Y (ok_c_Teams_weigh hc) cv_RX10_79 clC_14 ⟨Nat.le_of_ble_eq_true rfl, Nat.le_of_ble_eq_true rfl⟩ rfl hl.1 (Nat.le_of_ble_eq_true rfl) (dck_at da_X10_choose 2 rfl)) (fun H locs Y => ?_)
  refine lv_aload_n X.1 X.2.1 (dck_at da_X10_choose 3 rfl) rfl (lv_at hl 0 rfl) ?_
  refine lv_ldc2 X.1 X.2.1 X.2.2.2.1 (X.2.2.2.2 _ wm_789) (dck_at da_X10_choose 4 rfl) ?_
  refine gr_putJ X G Y fp_RX10_41 clC_14 rfl (dck_at da_X10_choose 5 rfl) (fun H locs Y => ?_)
  refine lv_aload_n X.1 X.2.1 (dck_at da_X10_choose 6 rfl) rfl (lv_at hl 0 rfl) ?_
  refine lv_iconst X.1 X.2.1 (dck_at da_X10_choose 7 rfl) ki_0 ?_
  refine lv_iconst X.1 X.2.1 (dck_at da_X10_choose 8 rfl) ki_0 ?_
  refine lv_lconst (v := 0) X.1 X.2.1 (dck_at da_X10_choose 9 rfl) rfl ?_
  obtain ⟨s2, hc, h⟩ := gB_some h
  refine gr_backv Y (gr_runV (as := [.int (0 : Int32), .int (0 : Int32), .long (0 : Int64)]) (rest := []) X G Y (ok_c_Teams_send hc) cv_RX10_85 clC_14 ⟨Nat.le_of_ble_eq_true rfl, Nat.le_of_ble_eq_true rfl⟩ rfl hl.1 (Nat.le_of_ble_eq_true rfl) (dck_at da_X10_choose 10 rfl)) (fun H locs Y => ?_)
  exact gr_vretO X Y h hr hlk (dck_at da_X10_choose 11 rfl)
set_option maxRecDepth 100000 in
set_option maxHeartbeats 4000000 in
theorem ok_c_whom {l : Launch} {D : va_G} {cy : Nat → ClassId} {ad sa : Nat → Nat} {A : Nat → Prop} {F : Nat} {a1 : Int32} {s0 : St} {ρ : Int64} {σ' : St} (h : c_whom F a1 s0 = some (ρ, σ')) : gMl l shC D cy ad sa A yX11_whom cX11_whom 2 (some .long) 8 [.ref (ad 0), .int a1] s0 ρ σ' := by
  refine gM_of (by decide) (Nat.le_of_ble_eq_true rfl) ?_
  intro p e s m args below meth c ls X G Y hr hlk hl
  have hl : lv_has ls 2 [(0, .ref (ad 0)), (1, .int a1)] := hl
  have b64 : ∀  (s0 : St) (H : Heap) (locs : List Loc) (ls : Array Slot), c_whom_J64 F  s0 = some (ρ, σ') → gY shC D cy ad A s0 s H locs → lv_has ls 2 [(0, .ref (ad 0))] → W p l e (grm 8) s m args below meth c H locs 0 0 (MQ below (va_Ql (fun (q : Int64) (_ : Unit) => q = ρ) (fun _ t => va_P D vwCl (gWl shC cy ad σ') t.heap) A) args s 0 0 A) (F0 m 64 ls []) := by
    intro s0 H locs ls h Y hl
    unfold c_whom_J64 at h
    refine lv_aload_n X.1 X.2.1 (dck_at da_X11_whom 31 rfl) rfl (lv_at hl 0 rfl) ?_
    refine lv_bipush X.1 X.2.1 (dck_at da_X11_whom 32 rfl) kb_m4 ?_
    obtain ⟨r1, s1, hc, h⟩ := gB2_some h
    refine gr_backi Y (gr_runV (as := [.int (-4 : Int32)]) (rest := []) X G Y (ok_c_refuse hc) cv_RX11_55 clC_0 ⟨Nat.le_of_ble_eq_true rfl, Nat.le_of_ble_eq_true rfl⟩ rfl hl.1 (Nat.le_of_ble_eq_true rfl) (dck_at da_X11_whom 33 rfl)) (fun H locs Y => ?_)
    refine lv_i2l (v := (r1).toInt64) X.1 X.2.1 (dck_at da_X11_whom 34 rfl) rfl ?_
    exact gr_lretO X Y h hr hlk (dck_at da_X11_whom 35 rfl)
  unfold c_whom at h
  refine lv_iload_n X.1 X.2.1 (dck_at da_X11_whom 0 rfl) rfl (lv_at hl 1 rfl) ?_
  refine lv_iconst X.1 X.2.1 (dck_at da_X11_whom 1 rfl) ki_m1 ?_
  refine lv_iconst X.1 X.2.1 (dck_at da_X11_whom 2 rfl) ki_3 ?_
  obtain ⟨r2, s2, hc, h⟩ := gB2_some h
  refine gr_backi Y (gr_runS (as := [.int a1, .int (-1 : Int32), .int (3 : Int32)]) (rest := []) X G Y (ok_c_isIn hc) cs_RX11_68 ⟨Nat.le_of_ble_eq_true rfl, Nat.le_of_ble_eq_true rfl⟩ rfl hl.1 (Nat.le_of_ble_eq_true rfl) (dck_at da_X11_whom 3 rfl)) (fun H locs Y => ?_)
  refine lv_if_ne (tgt := 16) X.1 X.2.1 (dck_at da_X11_whom 4 rfl) rfl (fun c => ?_) (fun c => ?_)
  · have h := gI_neg h c
    refine lv_aload_n X.1 X.2.1 (dck_at da_X11_whom 10 rfl) rfl (lv_at hl 0 rfl) ?_
    refine gr_getR X G Y fk_RX11_12 clC_0 rfl (dck_at da_X11_whom 11 rfl) ?_
    refine gr_getR X G Y fk_RX11_122 clC_1 rfl (dck_at da_X11_whom 12 rfl) ?_
    obtain ⟨r3, s3, hc, h⟩ := gB2_some h
    refine gr_backi Y (gr_runV (as := []) (rest := []) X G Y (ok_c_Night_isOut hc) cv_RX11_132 clC_9 ⟨Nat.le_of_ble_eq_true rfl, Nat.le_of_ble_eq_true rfl⟩ rfl hl.1 (Nat.le_of_ble_eq_true rfl) (dck_at da_X11_whom 13 rfl)) (fun H locs Y => ?_)
    refine lv_if_ne (tgt := 37) X.1 X.2.1 (dck_at da_X11_whom 14 rfl) rfl (fun c => ?_) (fun c => ?_)
    · have h := gI_neg h c
      refine lv_aload_n X.1 X.2.1 (dck_at da_X11_whom 20 rfl) rfl (lv_at hl 0 rfl) ?_
      refine gr_getR X G Y fk_RX11_12 clC_0 rfl (dck_at da_X11_whom 21 rfl) ?_
      refine gr_getR X G Y fk_RX11_170 clC_1 rfl (dck_at da_X11_whom 22 rfl) ?_
      refine gr_getI X G Y fk_RX11_174 clC_14 rfl (dck_at da_X11_whom 23 rfl) ?_
      refine lv_if_eq (tgt := 64) X.1 X.2.1 (dck_at da_X11_whom 24 rfl) rfl (fun c => ?_) (fun c => ?_)
      · have h := gI_pos h c
        exact b64 s3 _ _ _ h Y (lv_sub hl [0] rfl)
      · have h := gI_neg h c
        refine lv_iload_n X.1 X.2.1 (dck_at da_X11_whom 25 rfl) rfl (lv_at hl 1 rfl) ?_
        refine lv_aload_n X.1 X.2.1 (dck_at da_X11_whom 26 rfl) rfl (lv_at hl 0 rfl) ?_
        refine gr_getR X G Y fk_RX11_12 clC_0 rfl (dck_at da_X11_whom 27 rfl) ?_
        refine gr_getR X G Y fk_RX11_170 clC_1 rfl (dck_at da_X11_whom 28 rfl) ?_
        refine gr_getI X G Y fk_RX11_174 clC_14 rfl (dck_at da_X11_whom 29 rfl) ?_
        refine lv_icmp_lt (tgt := 72) X.1 X.2.1 (dck_at da_X11_whom 30 rfl) rfl (fun c => ?_) (fun c => ?_)
        · have h := gI_pos h c
          refine lv_aload_n X.1 X.2.1 (dck_at da_X11_whom 36 rfl) rfl (lv_at hl 0 rfl) ?_
          refine gr_getR X G Y fk_RX11_12 clC_0 rfl (dck_at da_X11_whom 37 rfl) ?_
          refine gr_getR X G Y fk_RX11_170 clC_1 rfl (dck_at da_X11_whom 38 rfl) ?_
          refine lv_aload_n X.1 X.2.1 (dck_at da_X11_whom 39 rfl) rfl (lv_at hl 0 rfl) ?_
          refine gr_getR X G Y fk_RX11_12 clC_0 rfl (dck_at da_X11_whom 40 rfl) ?_
          obtain ⟨s4, hc, h⟩ := gB_some h
          refine gr_backv Y (gr_runV (as := [.ref (ad 1)]) (rest := []) X G Y (ok_c_Teams_choose hc) cv_RX11_234 clC_14 ⟨Nat.le_of_ble_eq_true rfl, Nat.le_of_ble_eq_true rfl⟩ rfl hl.1 (Nat.le_of_ble_eq_true rfl) (dck_at da_X11_whom 41 rfl)) (fun H locs Y => ?_)
          refine lv_iload_n X.1 X.2.1 (dck_at da_X11_whom 42 rfl) rfl (lv_at hl 1 rfl) ?_
          refine lv_if_ge (tgt := 103) X.1 X.2.1 (dck_at da_X11_whom 43 rfl) rfl (fun c => ?_) (fun c => ?_)
          · have h := gI_pos h c
            refine lv_aload_n X.1 X.2.1 (dck_at da_X11_whom 49 rfl) rfl (lv_at hl 0 rfl) ?_
            refine gr_getR X G Y fk_RX11_12 clC_0 rfl (dck_at da_X11_whom 50 rfl) ?_
            refine gr_getR X G Y fk_RX11_170 clC_1 rfl (dck_at da_X11_whom 51 rfl) ?_
            refine gr_getR X G Y fk_RX11_242 clC_14 rfl (dck_at da_X11_whom 52 rfl) ?_
            refine lv_iload_n X.1 X.2.1 (dck_at da_X11_whom 53 rfl) rfl (lv_at hl 1 rfl) ?_
            obtain ⟨hin, h⟩ := gI_if h
            refine gr_iald X G Y clC_21 hin (dck_at da_X11_whom 54 rfl) ?_
            refine lv_i2l (v := (s4.1 21 (a1).toNatClampNeg).toInt64) X.1 X.2.1 (dck_at da_X11_whom 55 rfl) rfl ?_
            exact gr_lretO X Y h hr hlk (dck_at da_X11_whom 56 rfl)
          · have h := gI_neg h c
            refine lv_aload_n X.1 X.2.1 (dck_at da_X11_whom 44 rfl) rfl (lv_at hl 0 rfl) ?_
            refine gr_getR X G Y fk_RX11_12 clC_0 rfl (dck_at da_X11_whom 45 rfl) ?_
            refine gr_getR X G Y fk_RX11_170 clC_1 rfl (dck_at da_X11_whom 46 rfl) ?_
            refine gr_getJ X G Y fk_RX11_238 clC_14 rfl (dck_at da_X11_whom 47 rfl) ?_
            refine lv_goto (tgt := 116) X.1 X.2.1 (dck_at da_X11_whom 48 rfl) rfl ?_
            exact gr_lretO X Y h hr hlk (dck_at da_X11_whom 56 rfl)
        · have h := gI_neg h c
          exact b64 s3 _ _ _ h Y (lv_sub hl [0] rfl)
    · have h := gI_pos h c
      refine lv_aload_n X.1 X.2.1 (dck_at da_X11_whom 15 rfl) rfl (lv_at hl 0 rfl) ?_
      refine lv_bipush X.1 X.2.1 (dck_at da_X11_whom 16 rfl) kb_m2 ?_
      obtain ⟨r5, s5, hc, h⟩ := gB2_some h
      refine gr_backi Y (gr_runV (as := [.int (-2 : Int32)]) (rest := []) X G Y (ok_c_refuse hc) cv_RX11_55 clC_0 ⟨Nat.le_of_ble_eq_true rfl, Nat.le_of_ble_eq_true rfl⟩ rfl hl.1 (Nat.le_of_ble_eq_true rfl) (dck_at da_X11_whom 17 rfl)) (fun H locs Y => ?_)
      refine lv_i2l (v := (r5).toInt64) X.1 X.2.1 (dck_at da_X11_whom 18 rfl) rfl ?_
      exact gr_lretO X Y h hr hlk (dck_at da_X11_whom 19 rfl)
  · have h := gI_pos h c
    refine lv_aload_n X.1 X.2.1 (dck_at da_X11_whom 5 rfl) rfl (lv_at hl 0 rfl) ?_
    refine lv_iconst X.1 X.2.1 (dck_at da_X11_whom 6 rfl) ki_m1 ?_
    obtain ⟨r6, s6, hc, h⟩ := gB2_some h
    refine gr_backi Y (gr_runV (as := [.int (-1 : Int32)]) (rest := []) X G Y (ok_c_refuse hc) cv_RX11_55 clC_0 ⟨Nat.le_of_ble_eq_true rfl, Nat.le_of_ble_eq_true rfl⟩ rfl hl.1 (Nat.le_of_ble_eq_true rfl) (dck_at da_X11_whom 7 rfl)) (fun H locs Y => ?_)
    refine lv_i2l (v := (r6).toInt64) X.1 X.2.1 (dck_at da_X11_whom 8 rfl) rfl ?_
    exact gr_lretO X Y h hr hlk (dck_at da_X11_whom 9 rfl)
set_option maxRecDepth 100000 in
set_option maxHeartbeats 4000000 in
theorem ok_c_Teams_greatestTogether {l : Launch} {D : va_G} {cy : Nat → ClassId} {ad sa : Nat → Nat} {A : Nat → Prop} {F : Nat}  {s0 : St} {ρ : Int64} {σ' : St} (h : c_Teams_greatestTogether F s0 = some (ρ, σ')) : gMl l shC D cy ad sa A yX10_greatestTogether cX10_greatestTogether 8 (some .long) 5 [.ref (ad 14), .ref (ad 1)] s0 ρ σ' := by
  refine gM_of (by decide) (Nat.le_of_ble_eq_true rfl) ?_
  intro p e s m args below meth c ls X G Y hr hlk hl
  have hl : lv_has ls 8 [(0, .ref (ad 14)), (1, .ref (ad 1))] := hl
  have b10 : ∀ n : Nat, ∀ (x2 : Int64) (x4 : Int32) (s0 : St) (H : Heap) (locs : List Loc) (ls : Array Slot), c_Teams_greatestTogether_L10 F  n x2 x4 s0 = some (ρ, σ') → gY shC D cy ad A s0 s H locs → lv_has ls 8 [(0, .ref (ad 14)), (2, .long x2), (4, .int x4)] → W p l e (grm 5) s m args below meth c H locs 0 0 (MQ below (va_Ql (fun (q : Int64) (_ : Unit) => q = ρ) (fun _ t => va_P D vwCl (gWl shC cy ad σ') t.heap) A) args s 0 0 A) (F0 m 10 ls []) := by
    intro n
    induction n with
    | zero => intro x2 x4 s0 H locs ls h Y hl; exact (gnone h).elim
    | succ n hk10 =>
      have e : c_Teams_greatestTogether_L10 F  (n + 1) = c_Teams_greatestTogether_L10b F  (c_Teams_greatestTogether_L10 F  n) := rfl
      rw [e]; clear e
      generalize c_Teams_greatestTogether_L10 F  n = k10 at hk10 ⊢
      have b25 : ∀ n : Nat, ∀ (x2 : Int64) (x4 : Int32) (x5 : Int64) (x7 : Int32) (s0 : St) (H : Heap) (locs : List Loc) (ls : Array Slot), c_Teams_greatestTogether_L25 F k10 n x2 x4 x5 x7 s0 = some (ρ, σ') → gY shC D cy ad A s0 s H locs → lv_has ls 8 [(0, .ref (ad 14)), (2, .long x2), (4, .int x4), (5, .long x5), (7, .int x7)] → W p l e (grm 5) s m args below meth c H locs 0 0 (MQ below (va_Ql (fun (q : Int64) (_ : Unit) => q = ρ) (fun _ t => va_P D vwCl (gWl shC cy ad σ') t.heap) A) args s 0 0 A) (F0 m 25 ls []) := by
        intro n
        induction n with
        | zero => intro x2 x4 x5 x7 s0 H locs ls h Y hl; exact (gnone h).elim
        | succ n hk25 =>
          have e : c_Teams_greatestTogether_L25 F k10 (n + 1) = c_Teams_greatestTogether_L25b F k10 (c_Teams_greatestTogether_L25 F k10 n) := rfl
          rw [e]; clear e
          generalize c_Teams_greatestTogether_L25 F k10 n = k25 at hk25 ⊢
          intro x2 x4 x5 x7 s0 H locs ls h Y hl
          unfold c_Teams_greatestTogether_L25b at h
          refine lv_iload X.1 X.2.1 (dck_at da_X10_greatestTogether 15 rfl) (lv_at hl 4 rfl) ?_
          refine lv_aload_n X.1 X.2.1 (dck_at da_X10_greatestTogether 16 rfl) rfl (lv_at hl 0 rfl) ?_
          refine gr_getI X G Y fk_RX10_38 clC_14 rfl (dck_at da_X10_greatestTogether 17 rfl) ?_
          refine lv_icmp_ge (tgt := 60) X.1 X.2.1 (dck_at da_X10_greatestTogether 18 rfl) rfl (fun c => ?_) (fun c => ?_)
          · have h := gI_pos h c
            refine lv_lload_n X.1 X.2.1 (dck_at da_X10_greatestTogether 32 rfl) rfl (lv_at hl 1 rfl) ?_
            refine lv_lload X.1 X.2.1 (dck_at da_X10_greatestTogether 33 rfl) (lv_at hl 3 rfl) ?_
            refine lv_ladd X.1 X.2.1 (dck_at da_X10_greatestTogether 34 rfl) ?_
            refine lv_lstore_n (lv' := [(2, .long (x2 + x5)), (0, .ref (ad 14)), (4, .int x4), (5, .long x5), (7, .int x7)]) X.1 X.2.1 (dck_at da_X10_greatestTogether 35 rfl) rfl hl (by decide) rfl (fun ls hl => ?_)
            refine lv_iinc (v := x4 + (1 : Int32)) (lv' := [(4, .int (x4 + (1 : Int32))), (2, .long (x2 + x5)), (0, .ref (ad 14)), (5, .long x5), (7, .int x7)]) X.1 X.2.1 (dck_at da_X10_greatestTogether 36 rfl) hl (k := 2) rfl (congrArg (HAdd.hAdd _) ki_1) (by decide) rfl (fun ls hl => ?_)
            refine lv_goto (tgt := 10) X.1 X.2.1 (dck_at da_X10_greatestTogether 37 rfl) rfl ?_
            exact hk10 (x2 + x5) (x4 + (1 : Int32)) s0 _ _ _ h Y (lv_sub hl [2, 1, 0] rfl)
          · have h := gI_neg h c
            refine lv_lload X.1 X.2.1 (dck_at da_X10_greatestTogether 19 rfl) (lv_at hl 3 rfl) ?_
            refine lv_aload_n X.1 X.2.1 (dck_at da_X10_greatestTogether 20 rfl) rfl (lv_at hl 0 rfl) ?_
            refine gr_getR X G Y fk_RX10_24 clC_14 rfl (dck_at da_X10_greatestTogether 21 rfl) ?_
            refine lv_iload X.1 X.2.1 (dck_at da_X10_greatestTogether 22 rfl) (lv_at hl 2 rfl) ?_
            refine lv_bipush X.1 X.2.1 (dck_at da_X10_greatestTogether 23 rfl) kb_6 ?_
            refine lv_imul X.1 X.2.1 (dck_at da_X10_greatestTogether 24 rfl) ?_
            refine lv_iload X.1 X.2.1 (dck_at da_X10_greatestTogether 25 rfl) (lv_at hl 4 rfl) ?_
            refine lv_iadd X.1 X.2.1 (dck_at da_X10_greatestTogether 26 rfl) ?_
            obtain ⟨hin, h⟩ := gI_if h
            refine gr_lald X G Y clC_19 hin (dck_at da_X10_greatestTogether 27 rfl) ?_
            refine gr_mmaxL X hl.1 wm_803 wm_804 wm_62 wm_805 ⟨Nat.le_of_ble_eq_true rfl, Nat.le_of_ble_eq_true rfl⟩ (dck_at da_X10_greatestTogether 28 rfl) ?_
            refine lv_lstore (lv' := [(5, .long (gMmaxL x5 (s0.2 19 ((x4 * (6 : Int32)) + x7).toNatClampNeg))), (0, .ref (ad 14)), (2, .long x2), (4, .int x4), (7, .int x7)]) X.1 X.2.1 (dck_at da_X10_greatestTogether 29 rfl) hl (by decide) rfl (fun ls hl => ?_)
            refine lv_iinc (v := x7 + (1 : Int32)) (lv' := [(7, .int (x7 + (1 : Int32))), (5, .long (gMmaxL x5 (s0.2 19 ((x4 * (6 : Int32)) + x7).toNatClampNeg))), (0, .ref (ad 14)), (2, .long x2), (4, .int x4)]) X.1 X.2.1 (dck_at da_X10_greatestTogether 30 rfl) hl (k := 4) rfl (congrArg (HAdd.hAdd _) ki_1) (by decide) rfl (fun ls hl => ?_)
            refine lv_goto (tgt := 25) X.1 X.2.1 (dck_at da_X10_greatestTogether 31 rfl) rfl ?_
            exact hk25 x2 x4 (gMmaxL x5 (s0.2 19 ((x4 * (6 : Int32)) + x7).toNatClampNeg)) (x7 + (1 : Int32)) s0 _ _ _ h Y (lv_sub hl [2, 3, 4, 1, 0] rfl)
      intro x2 x4 s0 H locs ls h Y hl
      unfold c_Teams_greatestTogether_L10b at h
      refine lv_iload X.1 X.2.1 (dck_at da_X10_greatestTogether 7 rfl) (lv_at hl 2 rfl) ?_
      refine lv_aload_n X.1 X.2.1 (dck_at da_X10_greatestTogether 8 rfl) rfl (lv_at hl 0 rfl) ?_
      refine gr_getI X G Y fk_RX10_34 clC_14 rfl (dck_at da_X10_greatestTogether 9 rfl) ?_
      refine lv_icmp_ge (tgt := 71) X.1 X.2.1 (dck_at da_X10_greatestTogether 10 rfl) rfl (fun c => ?_) (fun c => ?_)
      · have h := gI_pos h c
        refine lv_lload_n X.1 X.2.1 (dck_at da_X10_greatestTogether 38 rfl) rfl (lv_at hl 1 rfl) ?_
        exact gr_lretO X Y h hr hlk (dck_at da_X10_greatestTogether 39 rfl)
      · have h := gI_neg h c
        refine lv_lconst (v := 0) X.1 X.2.1 (dck_at da_X10_greatestTogether 11 rfl) rfl ?_
        refine lv_lstore (lv' := [(5, .long (0 : Int64)), (0, .ref (ad 14)), (2, .long x2), (4, .int x4)]) X.1 X.2.1 (dck_at da_X10_greatestTogether 12 rfl) hl (by decide) rfl (fun ls hl => ?_)
        refine lv_iconst X.1 X.2.1 (dck_at da_X10_greatestTogether 13 rfl) ki_0 ?_
        refine lv_istore (lv' := [(7, .int (0 : Int32)), (5, .long (0 : Int64)), (0, .ref (ad 14)), (2, .long x2), (4, .int x4)]) X.1 X.2.1 (dck_at da_X10_greatestTogether 14 rfl) hl (by decide) rfl (fun ls hl => ?_)
        exact b25 F x2 x4 (0 : Int64) (0 : Int32) s0 _ _ _ h Y (lv_sub hl [2, 3, 4, 1, 0] rfl)
  unfold c_Teams_greatestTogether at h
  refine lv_aload_n X.1 X.2.1 (dck_at da_X10_greatestTogether 0 rfl) rfl (lv_at hl 0 rfl) ?_
  refine lv_aload_n X.1 X.2.1 (dck_at da_X10_greatestTogether 1 rfl) rfl (lv_at hl 1 rfl) ?_
  obtain ⟨s1, hc, h⟩ := gB_some h
  refine gr_backv Y (gr_runV (as := [.ref (ad 1)]) (rest := []) X G Y (ok_c_Teams_weigh hc) cv_RX10_79 clC_14 ⟨Nat.le_of_ble_eq_true rfl, Nat.le_of_ble_eq_true rfl⟩ rfl hl.1 (Nat.le_of_ble_eq_true rfl) (dck_at da_X10_greatestTogether 2 rfl)) (fun H locs Y => ?_)
  refine lv_lconst (v := 0) X.1 X.2.1 (dck_at da_X10_greatestTogether 3 rfl) rfl ?_
  refine lv_lstore_n (lv' := [(2, .long (0 : Int64)), (0, .ref (ad 14)), (1, .ref (ad 1))]) X.1 X.2.1 (dck_at da_X10_greatestTogether 4 rfl) rfl hl (by decide) rfl (fun ls hl => ?_)
  refine lv_iconst X.1 X.2.1 (dck_at da_X10_greatestTogether 5 rfl) ki_0 ?_
  refine lv_istore (lv' := [(4, .int (0 : Int32)), (2, .long (0 : Int64)), (0, .ref (ad 14)), (1, .ref (ad 1))]) X.1 X.2.1 (dck_at da_X10_greatestTogether 6 rfl) hl (by decide) rfl (fun ls hl => ?_)
  exact b10 F (0 : Int64) (0 : Int32) s1 _ _ _ h Y (lv_sub hl [2, 1, 0] rfl)
set_option maxRecDepth 100000 in
set_option maxHeartbeats 4000000 in
theorem ok_c_bound {l : Launch} {D : va_G} {cy : Nat → ClassId} {ad sa : Nat → Nat} {A : Nat → Prop} {F : Nat}  {s0 : St} {ρ : Int64} {σ' : St} (h : c_bound F s0 = some (ρ, σ')) : gMl l shC D cy ad sa A yX11_bound cX11_bound 1 (some .long) 6 [.ref (ad 0)] s0 ρ σ' := by
  refine gM_of (by decide) (Nat.le_of_ble_eq_true rfl) ?_
  intro p e s m args below meth c ls X G Y hr hlk hl
  have hl : lv_has ls 1 [(0, .ref (ad 0))] := hl
  unfold c_bound at h
  refine lv_aload_n X.1 X.2.1 (dck_at da_X11_bound 0 rfl) rfl (lv_at hl 0 rfl) ?_
  refine gr_getR X G Y fk_RX11_12 clC_0 rfl (dck_at da_X11_bound 1 rfl) ?_
  refine gr_getR X G Y fk_RX11_122 clC_1 rfl (dck_at da_X11_bound 2 rfl) ?_
  obtain ⟨r1, s1, hc, h⟩ := gB2_some h
  refine gr_backi Y (gr_runV (as := []) (rest := []) X G Y (ok_c_Night_isOut hc) cv_RX11_132 clC_9 ⟨Nat.le_of_ble_eq_true rfl, Nat.le_of_ble_eq_true rfl⟩ rfl hl.1 (Nat.le_of_ble_eq_true rfl) (dck_at da_X11_bound 3 rfl)) (fun H locs Y => ?_)
  refine lv_if_ne (tgt := 21) X.1 X.2.1 (dck_at da_X11_bound 4 rfl) rfl (fun c => ?_) (fun c => ?_)
  · have h := gI_neg h c
    refine lv_aload_n X.1 X.2.1 (dck_at da_X11_bound 10 rfl) rfl (lv_at hl 0 rfl) ?_
    refine gr_getR X G Y fk_RX11_12 clC_0 rfl (dck_at da_X11_bound 11 rfl) ?_
    refine gr_getR X G Y fk_RX11_170 clC_1 rfl (dck_at da_X11_bound 12 rfl) ?_
    refine gr_getI X G Y fk_RX11_174 clC_14 rfl (dck_at da_X11_bound 13 rfl) ?_
    refine lv_if_ne (tgt := 42) X.1 X.2.1 (dck_at da_X11_bound 14 rfl) rfl (fun c => ?_) (fun c => ?_)
    · have h := gI_neg h c
      refine lv_aload_n X.1 X.2.1 (dck_at da_X11_bound 20 rfl) rfl (lv_at hl 0 rfl) ?_
      refine gr_getR X G Y fk_RX11_12 clC_0 rfl (dck_at da_X11_bound 21 rfl) ?_
      refine gr_getR X G Y fk_RX11_170 clC_1 rfl (dck_at da_X11_bound 22 rfl) ?_
      refine lv_aload_n X.1 X.2.1 (dck_at da_X11_bound 23 rfl) rfl (lv_at hl 0 rfl) ?_
      refine gr_getR X G Y fk_RX11_12 clC_0 rfl (dck_at da_X11_bound 24 rfl) ?_
      obtain ⟨r2, s2, hc, h⟩ := gB2_some h
      refine gr_backl Y (gr_runV (as := [.ref (ad 1)]) (rest := []) X G Y (ok_c_Teams_greatestTogether hc) cv_RX11_245 clC_14 ⟨Nat.le_of_ble_eq_true rfl, Nat.le_of_ble_eq_true rfl⟩ rfl hl.1 (Nat.le_of_ble_eq_true rfl) (dck_at da_X11_bound 25 rfl)) (fun H locs Y => ?_)
      exact gr_lretO X Y h hr hlk (dck_at da_X11_bound 26 rfl)
    · have h := gI_pos h c
      refine lv_aload_n X.1 X.2.1 (dck_at da_X11_bound 15 rfl) rfl (lv_at hl 0 rfl) ?_
      refine lv_bipush X.1 X.2.1 (dck_at da_X11_bound 16 rfl) kb_m4 ?_
      obtain ⟨r3, s3, hc, h⟩ := gB2_some h
      refine gr_backi Y (gr_runV (as := [.int (-4 : Int32)]) (rest := []) X G Y (ok_c_refuse hc) cv_RX11_55 clC_0 ⟨Nat.le_of_ble_eq_true rfl, Nat.le_of_ble_eq_true rfl⟩ rfl hl.1 (Nat.le_of_ble_eq_true rfl) (dck_at da_X11_bound 17 rfl)) (fun H locs Y => ?_)
      refine lv_i2l (v := (r3).toInt64) X.1 X.2.1 (dck_at da_X11_bound 18 rfl) rfl ?_
      exact gr_lretO X Y h hr hlk (dck_at da_X11_bound 19 rfl)
  · have h := gI_pos h c
    refine lv_aload_n X.1 X.2.1 (dck_at da_X11_bound 5 rfl) rfl (lv_at hl 0 rfl) ?_
    refine lv_bipush X.1 X.2.1 (dck_at da_X11_bound 6 rfl) kb_m2 ?_
    obtain ⟨r4, s4, hc, h⟩ := gB2_some h
    refine gr_backi Y (gr_runV (as := [.int (-2 : Int32)]) (rest := []) X G Y (ok_c_refuse hc) cv_RX11_55 clC_0 ⟨Nat.le_of_ble_eq_true rfl, Nat.le_of_ble_eq_true rfl⟩ rfl hl.1 (Nat.le_of_ble_eq_true rfl) (dck_at da_X11_bound 7 rfl)) (fun H locs Y => ?_)
    refine lv_i2l (v := (r4).toInt64) X.1 X.2.1 (dck_at da_X11_bound 8 rfl) rfl ?_
    exact gr_lretO X Y h hr hlk (dck_at da_X11_bound 9 rfl)
set_option maxRecDepth 100000 in
set_option maxHeartbeats 4000000 in
theorem ok_c_State_bestOf {l : Launch} {D : va_G} {cy : Nat → ClassId} {ad sa : Nat → Nat} {A : Nat → Prop} {F : Nat} {a1 : Int32} {a2 : Int32} {s0 : St} {ρ : Int32} {σ' : St} (h : c_State_bestOf F a1 a2 s0 = some (ρ, σ')) : gMi l shC D cy ad sa A yX8_bestOf cX8_bestOf 9 (some .int) 3 [.ref (ad 1), .int a1, .int a2] s0 ρ σ' := by
  refine gM_of (by decide) (Nat.le_of_ble_eq_true rfl) ?_
  intro p e s m args below meth c ls X G Y hr hlk hl
  have hl : lv_has ls 9 [(0, .ref (ad 1)), (1, .int a1), (2, .int a2)] := hl
  have b10 : ∀ n : Nat, ∀ (x1 : Int32) (x2 : Int32) (x3 : Int32) (x4 : Int64) (x6 : Int32) (s0 : St) (H : Heap) (locs : List Loc) (ls : Array Slot), c_State_bestOf_L10 F  n x1 x2 x3 x4 x6 s0 = some (ρ, σ') → gY shC D cy ad A s0 s H locs → lv_has ls 9 [(0, .ref (ad 1)), (1, .int x1), (2, .int x2), (3, .int x3), (4, .long x4), (6, .int x6)] → W p l e (grm 3) s m args below meth c H locs 0 0 (MQ below (va_Qi (fun (q : Int32) (_ : Unit) => q = ρ) (fun _ t => va_P D vwCl (gWl shC cy ad σ') t.heap) A) args s 0 0 A) (F0 m 10 ls []) := by
    intro n
    induction n with
    | zero => intro x1 x2 x3 x4 x6 s0 H locs ls h Y hl; exact (gnone h).elim
    | succ n hk10 =>
      have e : c_State_bestOf_L10 F  (n + 1) = c_State_bestOf_L10b F  (c_State_bestOf_L10 F  n) := rfl
      rw [e]; clear e
      generalize c_State_bestOf_L10 F  n = k10 at hk10 ⊢
      have b74 : ∀ (x1 : Int32) (x2 : Int32) (x3 : Int32) (x4 : Int64) (x6 : Int32) (s0 : St) (H : Heap) (locs : List Loc) (ls : Array Slot), c_State_bestOf_J74 F k10 x1 x2 x3 x4 x6 s0 = some (ρ, σ') → gY shC D cy ad A s0 s H locs → lv_has ls 9 [(0, .ref (ad 1)), (1, .int x1), (2, .int x2), (3, .int x3), (4, .long x4), (6, .int x6)] → W p l e (grm 3) s m args below meth c H locs 0 0 (MQ below (va_Qi (fun (q : Int32) (_ : Unit) => q = ρ) (fun _ t => va_P D vwCl (gWl shC cy ad σ') t.heap) A) args s 0 0 A) (F0 m 74 ls []) := by
        intro x1 x2 x3 x4 x6 s0 H locs ls h Y hl
        unfold c_State_bestOf_J74 at h
        refine lv_iinc (v := x6 + (1 : Int32)) (lv' := [(6, .int (x6 + (1 : Int32))), (0, .ref (ad 1)), (1, .int x1), (2, .int x2), (3, .int x3), (4, .long x4)]) X.1 X.2.1 (dck_at da_X8_bestOf 37 rfl) hl (k := 5) rfl (congrArg (HAdd.hAdd _) ki_1) (by decide) rfl (fun ls hl => ?_)
        refine lv_goto (tgt := 10) X.1 X.2.1 (dck_at da_X8_bestOf 38 rfl) rfl ?_
        exact hk10 x1 x2 x3 x4 (x6 + (1 : Int32)) s0 _ _ _ h Y (lv_sub hl [1, 2, 3, 4, 5, 0] rfl)
      have b36 : ∀ (x1 : Int32) (x2 : Int32) (x3 : Int32) (x4 : Int64) (x6 : Int32) (y0 : Int32) (s0 : St) (H : Heap) (locs : List Loc) (ls : Array Slot), c_State_bestOf_J36 F k10 x1 x2 x3 x4 x6 y0 s0 = some (ρ, σ') → gY shC D cy ad A s0 s H locs → lv_has ls 9 [(0, .ref (ad 1)), (1, .int x1), (2, .int x2), (3, .int x3), (4, .long x4), (6, .int x6)] → W p l e (grm 3) s m args below meth c H locs 0 0 (MQ below (va_Qi (fun (q : Int32) (_ : Unit) => q = ρ) (fun _ t => va_P D vwCl (gWl shC cy ad σ') t.heap) A) args s 0 0 A) (F0 m 36 ls [.int y0]) := by
        intro x1 x2 x3 x4 x6 y0 s0 H locs ls h Y hl
        unfold c_State_bestOf_J36 at h
        refine lv_iload_n X.1 X.2.1 (dck_at da_X8_bestOf 18 rfl) rfl (lv_at hl 2 rfl) ?_
        refine lv_icmp_eq (tgt := 43) X.1 X.2.1 (dck_at da_X8_bestOf 19 rfl) rfl (fun c => ?_) (fun c => ?_)
        · have h := gI_pos h c
          refine lv_aload_n X.1 X.2.1 (dck_at da_X8_bestOf 21 rfl) rfl (lv_at hl 0 rfl) ?_
          refine lv_iload_n X.1 X.2.1 (dck_at da_X8_bestOf 22 rfl) rfl (lv_at hl 1 rfl) ?_
          refine lv_iload X.1 X.2.1 (dck_at da_X8_bestOf 23 rfl) (lv_at hl 5 rfl) ?_
          refine lv_aload_n X.1 X.2.1 (dck_at da_X8_bestOf 24 rfl) rfl (lv_at hl 0 rfl) ?_
          refine gr_getR X G Y fk_RX8_28 clC_1 rfl (dck_at da_X8_bestOf 25 rfl) ?_
          refine gr_getI X G Y fk_RX8_99 clC_9 rfl (dck_at da_X8_bestOf 26 rfl) ?_
          obtain ⟨r1, s1, hc, h⟩ := gB2_some h
          refine gr_backl Y (gr_runV (as := [.int x1, .int x6, .int (s0.1 9 4)]) (rest := []) X G Y (ok_c_State_seen hc) cv_RX8_94 clC_1 ⟨Nat.le_of_ble_eq_true rfl, Nat.le_of_ble_eq_true rfl⟩ rfl hl.1 (Nat.le_of_ble_eq_true rfl) (dck_at da_X8_bestOf 27 rfl)) (fun H locs Y => ?_)
          refine lv_lstore (lv' := [(7, .long r1), (0, .ref (ad 1)), (1, .int x1), (2, .int x2), (3, .int x3), (4, .long x4), (6, .int x6)]) X.1 X.2.1 (dck_at da_X8_bestOf 28 rfl) hl (by decide) rfl (fun ls hl => ?_)
          refine lv_lload X.1 X.2.1 (dck_at da_X8_bestOf 29 rfl) (lv_at hl 0 rfl) ?_
          refine lv_lload X.1 X.2.1 (dck_at da_X8_bestOf 30 rfl) (lv_at hl 5 rfl) ?_
          refine W.lcmp X.1 X.2.1 (dck_at da_X8_bestOf 31 rfl) ?_
          refine lv_if_le (tgt := 74) X.1 X.2.1 (dck_at da_X8_bestOf 32 rfl) rfl (fun c => ?_) (fun c => ?_)
          · have h := gI_pos h c
            exact b74 x1 x2 x3 x4 x6 s1 _ _ _ h Y (lv_sub hl [1, 2, 3, 4, 5, 6] rfl)
          · have h := gI_neg h c
            refine lv_lload X.1 X.2.1 (dck_at da_X8_bestOf 33 rfl) (lv_at hl 0 rfl) ?_
            refine lv_lstore (lv' := [(4, .long r1), (7, .long r1), (0, .ref (ad 1)), (1, .int x1), (2, .int x2), (3, .int x3), (6, .int x6)]) X.1 X.2.1 (dck_at da_X8_bestOf 34 rfl) hl (by decide) rfl (fun ls hl => ?_)
            refine lv_iload X.1 X.2.1 (dck_at da_X8_bestOf 35 rfl) (lv_at hl 6 rfl) ?_
            refine lv_istore_n (lv' := [(3, .int x6), (4, .long r1), (7, .long r1), (0, .ref (ad 1)), (1, .int x1), (2, .int x2), (6, .int x6)]) X.1 X.2.1 (dck_at da_X8_bestOf 36 rfl) rfl hl (by decide) rfl (fun ls hl => ?_)
            exact b74 x1 x2 x6 r1 x6 s1 _ _ _ h Y (lv_sub hl [3, 4, 5, 0, 1, 6] rfl)
        · have h := gI_neg h c
          refine lv_goto (tgt := 74) X.1 X.2.1 (dck_at da_X8_bestOf 20 rfl) rfl ?_
          exact b74 x1 x2 x3 x4 x6 s0 _ _ _ h Y (lv_sub hl [0, 1, 2, 3, 4, 5] rfl)
      intro x1 x2 x3 x4 x6 s0 H locs ls h Y hl
      unfold c_State_bestOf_L10b at h
      refine lv_iload X.1 X.2.1 (dck_at da_X8_bestOf 6 rfl) (lv_at hl 5 rfl) ?_
      refine lv_sipush X.1 X.2.1 (dck_at da_X8_bestOf 7 rfl) ks_144 ?_
      refine lv_icmp_ge (tgt := 80) X.1 X.2.1 (dck_at da_X8_bestOf 8 rfl) rfl (fun c => ?_) (fun c => ?_)
      · have h := gI_pos h c
        refine lv_iload_n X.1 X.2.1 (dck_at da_X8_bestOf 39 rfl) rfl (lv_at hl 3 rfl) ?_
        exact gr_iretO X Y h hr rfl hlk (dck_at da_X8_bestOf 40 rfl)
      · have h := gI_neg h c
        refine lv_aload_n X.1 X.2.1 (dck_at da_X8_bestOf 9 rfl) rfl (lv_at hl 0 rfl) ?_
        refine gr_getR X G Y fk_RX8_12 clC_1 rfl (dck_at da_X8_bestOf 10 rfl) ?_
        refine gr_getR X G Y fk_RX8_107 clC_2 rfl (dck_at da_X8_bestOf 11 rfl) ?_
        refine lv_iload X.1 X.2.1 (dck_at da_X8_bestOf 12 rfl) (lv_at hl 5 rfl) ?_
        obtain ⟨hin, h⟩ := gI_if h
        refine gr_iald X G Y clC_5 hin (dck_at da_X8_bestOf 13 rfl) ?_
        refine lv_if_le (tgt := 35) X.1 X.2.1 (dck_at da_X8_bestOf 14 rfl) rfl (fun c => ?_) (fun c => ?_)
        · have h := gI_pos h c
          refine lv_iconst X.1 X.2.1 (dck_at da_X8_bestOf 17 rfl) ki_0 ?_
          exact b36 x1 x2 x3 x4 x6 (0 : Int32) s0 _ _ _ h Y (lv_sub hl [0, 1, 2, 3, 4, 5] rfl)
        · have h := gI_neg h c
          refine lv_iconst X.1 X.2.1 (dck_at da_X8_bestOf 15 rfl) ki_1 ?_
          refine lv_goto (tgt := 36) X.1 X.2.1 (dck_at da_X8_bestOf 16 rfl) rfl ?_
          exact b36 x1 x2 x3 x4 x6 (1 : Int32) s0 _ _ _ h Y (lv_sub hl [0, 1, 2, 3, 4, 5] rfl)
  unfold c_State_bestOf at h
  refine lv_iconst X.1 X.2.1 (dck_at da_X8_bestOf 0 rfl) ki_m1 ?_
  refine lv_istore_n (lv' := [(3, .int (-1 : Int32)), (0, .ref (ad 1)), (1, .int a1), (2, .int a2)]) X.1 X.2.1 (dck_at da_X8_bestOf 1 rfl) rfl hl (by decide) rfl (fun ls hl => ?_)
  refine lv_ldc2 X.1 X.2.1 X.2.2.2.1 (X.2.2.2.2 _ wm_814) (dck_at da_X8_bestOf 2 rfl) ?_
  refine lv_lstore (lv' := [(4, .long (-1 : Int64)), (3, .int (-1 : Int32)), (0, .ref (ad 1)), (1, .int a1), (2, .int a2)]) X.1 X.2.1 (dck_at da_X8_bestOf 3 rfl) hl (by decide) rfl (fun ls hl => ?_)
  refine lv_iconst X.1 X.2.1 (dck_at da_X8_bestOf 4 rfl) ki_0 ?_
  refine lv_istore (lv' := [(6, .int (0 : Int32)), (4, .long (-1 : Int64)), (3, .int (-1 : Int32)), (0, .ref (ad 1)), (1, .int a1), (2, .int a2)]) X.1 X.2.1 (dck_at da_X8_bestOf 5 rfl) hl (by decide) rfl (fun ls hl => ?_)
  exact b10 F a1 a2 (-1 : Int32) (-1 : Int64) (0 : Int32) s0 _ _ _ h Y (lv_sub hl [3, 4, 5, 2, 1, 0] rfl)
set_option maxRecDepth 100000 in
set_option maxHeartbeats 4000000 in
theorem ok_c_State_isWorthMore {l : Launch} {D : va_G} {cy : Nat → ClassId} {ad sa : Nat → Nat} {A : Nat → Prop} {F : Nat} {a1 : Int32} {a2 : Int32} {s0 : St} {ρ : Int32} {σ' : St} (h : c_State_isWorthMore F a1 a2 s0 = some (ρ, σ')) : gMi l shC D cy ad sa A yX8_isWorthMore cX8_isWorthMore 4 (some .boolean) 4 [.ref (ad 1), .int a1, .int a2] s0 ρ σ' := by
  refine gM_of (by decide) (Nat.le_of_ble_eq_true rfl) ?_
  intro p e s m args below meth c ls X G Y hr hlk hl
  have hl : lv_has ls 4 [(0, .ref (ad 1)), (1, .int a1), (2, .int a2)] := hl
  have b41 : ∀  (s0 : St) (H : Heap) (locs : List Loc) (ls : Array Slot), c_State_isWorthMore_J41 F  s0 = some (ρ, σ') → gY shC D cy ad A s0 s H locs → lv_has ls 4 [] → W p l e (grm 4) s m args below meth c H locs 0 0 (MQ below (va_Qi (fun (q : Int32) (_ : Unit) => q = ρ) (fun _ t => va_P D vwCl (gWl shC cy ad σ') t.heap) A) args s 0 0 A) (F0 m 41 ls []) := by
    intro s0 H locs ls h Y hl
    unfold c_State_isWorthMore_J41 at h
    refine lv_iconst X.1 X.2.1 (dck_at da_X8_isWorthMore 23 rfl) ki_1 ?_
    refine lv_goto (tgt := 46) X.1 X.2.1 (dck_at da_X8_isWorthMore 24 rfl) rfl ?_
    exact gr_iretO X Y h hr rfl hlk (dck_at da_X8_isWorthMore 26 rfl)
  unfold c_State_isWorthMore at h
  refine lv_aload_n X.1 X.2.1 (dck_at da_X8_isWorthMore 0 rfl) rfl (lv_at hl 0 rfl) ?_
  refine lv_iload_n X.1 X.2.1 (dck_at da_X8_isWorthMore 1 rfl) rfl (lv_at hl 1 rfl) ?_
  refine lv_iconst X.1 X.2.1 (dck_at da_X8_isWorthMore 2 rfl) ki_0 ?_
  obtain ⟨r1, s1, hc, h⟩ := gB2_some h
  refine gr_backi Y (gr_runV (as := [.int a1, .int (0 : Int32)]) (rest := []) X G Y (ok_c_State_bestOf hc) cv_RX8_112 clC_1 ⟨Nat.le_of_ble_eq_true rfl, Nat.le_of_ble_eq_true rfl⟩ rfl hl.1 (Nat.le_of_ble_eq_true rfl) (dck_at da_X8_isWorthMore 3 rfl)) (fun H locs Y => ?_)
  refine lv_istore_n (lv' := [(3, .int r1), (0, .ref (ad 1)), (1, .int a1), (2, .int a2)]) X.1 X.2.1 (dck_at da_X8_isWorthMore 4 rfl) rfl hl (by decide) rfl (fun ls hl => ?_)
  refine lv_iload_n X.1 X.2.1 (dck_at da_X8_isWorthMore 5 rfl) rfl (lv_at hl 0 rfl) ?_
  refine lv_if_lt (tgt := 41) X.1 X.2.1 (dck_at da_X8_isWorthMore 6 rfl) rfl (fun c => ?_) (fun c => ?_)
  · have h := gI_pos h c
    exact b41 s1 _ _ _ h Y (lv_sub hl [] rfl)
  · have h := gI_neg h c
    refine lv_aload_n X.1 X.2.1 (dck_at da_X8_isWorthMore 7 rfl) rfl (lv_at hl 1 rfl) ?_
    refine lv_iload_n X.1 X.2.1 (dck_at da_X8_isWorthMore 8 rfl) rfl (lv_at hl 2 rfl) ?_
    refine lv_iload_n X.1 X.2.1 (dck_at da_X8_isWorthMore 9 rfl) rfl (lv_at hl 3 rfl) ?_
    refine lv_aload_n X.1 X.2.1 (dck_at da_X8_isWorthMore 10 rfl) rfl (lv_at hl 1 rfl) ?_
    refine gr_getR X G Y fk_RX8_28 clC_1 rfl (dck_at da_X8_isWorthMore 11 rfl) ?_
    refine gr_getI X G Y fk_RX8_99 clC_9 rfl (dck_at da_X8_isWorthMore 12 rfl) ?_
    obtain ⟨r2, s2, hc, h⟩ := gB2_some h
    refine gr_backl Y (gr_runV (as := [.int a1, .int a2, .int (s1.1 9 4)]) (rest := []) X G Y (ok_c_State_seen hc) cv_RX8_94 clC_1 ⟨Nat.le_of_ble_eq_true rfl, Nat.le_of_ble_eq_true rfl⟩ rfl hl.1 (Nat.le_of_ble_eq_true rfl) (dck_at da_X8_isWorthMore 13 rfl)) (fun H locs Y => ?_)
    refine lv_aload_n X.1 X.2.1 (dck_at da_X8_isWorthMore 14 rfl) rfl (lv_at hl 1 rfl) ?_
    refine lv_iload_n X.1 X.2.1 (dck_at da_X8_isWorthMore 15 rfl) rfl (lv_at hl 2 rfl) ?_
    refine lv_iload_n X.1 X.2.1 (dck_at da_X8_isWorthMore 16 rfl) rfl (lv_at hl 0 rfl) ?_
    refine lv_aload_n X.1 X.2.1 (dck_at da_X8_isWorthMore 17 rfl) rfl (lv_at hl 1 rfl) ?_
    refine gr_getR X G Y fk_RX8_28 clC_1 rfl (dck_at da_X8_isWorthMore 18 rfl) ?_
    refine gr_getI X G Y fk_RX8_99 clC_9 rfl (dck_at da_X8_isWorthMore 19 rfl) ?_
    obtain ⟨r3, s3, hc, h⟩ := gB2_some h
    refine gr_backl Y (gr_runV (as := [.int a1, .int r1, .int (s2.1 9 4)]) (rest := [.long r2]) X G Y (ok_c_State_seen hc) cv_RX8_94 clC_1 ⟨Nat.le_of_ble_eq_true rfl, Nat.le_of_ble_eq_true rfl⟩ rfl hl.1 (Nat.le_of_ble_eq_true rfl) (dck_at da_X8_isWorthMore 20 rfl)) (fun H locs Y => ?_)
    refine W.lcmp X.1 X.2.1 (dck_at da_X8_isWorthMore 21 rfl) ?_
    refine lv_if_le (tgt := 45) X.1 X.2.1 (dck_at da_X8_isWorthMore 22 rfl) rfl (fun c => ?_) (fun c => ?_)
    · have h := gI_pos h c
      refine lv_iconst X.1 X.2.1 (dck_at da_X8_isWorthMore 25 rfl) ki_0 ?_
      exact gr_iretO X Y h hr rfl hlk (dck_at da_X8_isWorthMore 26 rfl)
    · have h := gI_neg h c
      exact b41 s3 _ _ _ h Y (lv_sub hl [] rfl)
set_option maxRecDepth 100000 in
set_option maxHeartbeats 4000000 in
theorem ok_c_again {l : Launch} {D : va_G} {cy : Nat → ClassId} {ad sa : Nat → Nat} {A : Nat → Prop} {F : Nat} {a1 : Int32} {a2 : Int32} {s0 : St} {ρ : Int32} {σ' : St} (h : c_again F a1 a2 s0 = some (ρ, σ')) : gMi l shC D cy ad sa A yX11_again cX11_again 4 (some .int) 5 [.ref (ad 0), .int a1, .int a2] s0 ρ σ' := by
  refine gM_of (by decide) (Nat.le_of_ble_eq_true rfl) ?_
  intro p e s m args below meth c ls X G Y hr hlk hl
  have hl : lv_has ls 4 [(0, .ref (ad 0)), (1, .int a1), (2, .int a2)] := hl
  have b16 : ∀  (s0 : St) (H : Heap) (locs : List Loc) (ls : Array Slot), c_again_J16 F  s0 = some (ρ, σ') → gY shC D cy ad A s0 s H locs → lv_has ls 4 [(0, .ref (ad 0))] → W p l e (grm 5) s m args below meth c H locs 0 0 (MQ below (va_Qi (fun (q : Int32) (_ : Unit) => q = ρ) (fun _ t => va_P D vwCl (gWl shC cy ad σ') t.heap) A) args s 0 0 A) (F0 m 16 ls []) := by
    intro s0 H locs ls h Y hl
    unfold c_again_J16 at h
    refine lv_aload_n X.1 X.2.1 (dck_at da_X11_again 8 rfl) rfl (lv_at hl 0 rfl) ?_
    refine lv_iconst X.1 X.2.1 (dck_at da_X11_again 9 rfl) ki_m1 ?_
    obtain ⟨r1, s1, hc, h⟩ := gB2_some h
    refine gr_backi Y (gr_runV (as := [.int (-1 : Int32)]) (rest := []) X G Y (ok_c_refuse hc) cv_RX11_55 clC_0 ⟨Nat.le_of_ble_eq_true rfl, Nat.le_of_ble_eq_true rfl⟩ rfl hl.1 (Nat.le_of_ble_eq_true rfl) (dck_at da_X11_again 10 rfl)) (fun H locs Y => ?_)
    exact gr_iretO X Y h hr rfl hlk (dck_at da_X11_again 11 rfl)
  unfold c_again at h
  refine lv_iload_n X.1 X.2.1 (dck_at da_X11_again 0 rfl) rfl (lv_at hl 1 rfl) ?_
  obtain ⟨r2, s2, hc, h⟩ := gB2_some h
  refine gr_backi Y (gr_runS (as := [.int a1]) (rest := []) X G Y (ok_c_isSort hc) cs_RX11_209 ⟨Nat.le_of_ble_eq_true rfl, Nat.le_of_ble_eq_true rfl⟩ rfl hl.1 (Nat.le_of_ble_eq_true rfl) (dck_at da_X11_again 1 rfl)) (fun H locs Y => ?_)
  refine lv_if_eq (tgt := 16) X.1 X.2.1 (dck_at da_X11_again 2 rfl) rfl (fun c => ?_) (fun c => ?_)
  · have h := gI_pos h c
    exact b16 s2 _ _ _ h Y (lv_sub hl [0] rfl)
  · have h := gI_neg h c
    refine lv_iload_n X.1 X.2.1 (dck_at da_X11_again 3 rfl) rfl (lv_at hl 2 rfl) ?_
    refine lv_iconst X.1 X.2.1 (dck_at da_X11_again 4 rfl) ki_0 ?_
    refine lv_iconst X.1 X.2.1 (dck_at da_X11_again 5 rfl) ki_1 ?_
    obtain ⟨r3, s3, hc, h⟩ := gB2_some h
    refine gr_backi Y (gr_runS (as := [.int a2, .int (0 : Int32), .int (1 : Int32)]) (rest := []) X G Y (ok_c_isIn hc) cs_RX11_68 ⟨Nat.le_of_ble_eq_true rfl, Nat.le_of_ble_eq_true rfl⟩ rfl hl.1 (Nat.le_of_ble_eq_true rfl) (dck_at da_X11_again 6 rfl)) (fun H locs Y => ?_)
    refine lv_if_ne (tgt := 22) X.1 X.2.1 (dck_at da_X11_again 7 rfl) rfl (fun c => ?_) (fun c => ?_)
    · have h := gI_neg h c
      refine lv_aload_n X.1 X.2.1 (dck_at da_X11_again 12 rfl) rfl (lv_at hl 0 rfl) ?_
      refine gr_getR X G Y fk_RX11_12 clC_0 rfl (dck_at da_X11_again 13 rfl) ?_
      refine gr_getR X G Y fk_RX11_122 clC_1 rfl (dck_at da_X11_again 14 rfl) ?_
      obtain ⟨r4, s4, hc, h⟩ := gB2_some h
      refine gr_backi Y (gr_runV (as := []) (rest := []) X G Y (ok_c_Night_isOut hc) cv_RX11_132 clC_9 ⟨Nat.le_of_ble_eq_true rfl, Nat.le_of_ble_eq_true rfl⟩ rfl hl.1 (Nat.le_of_ble_eq_true rfl) (dck_at da_X11_again 15 rfl)) (fun H locs Y => ?_)
      refine lv_if_ne (tgt := 42) X.1 X.2.1 (dck_at da_X11_again 16 rfl) rfl (fun c => ?_) (fun c => ?_)
      · have h := gI_neg h c
        refine lv_aload_n X.1 X.2.1 (dck_at da_X11_again 21 rfl) rfl (lv_at hl 0 rfl) ?_
        refine gr_getR X G Y fk_RX11_12 clC_0 rfl (dck_at da_X11_again 22 rfl) ?_
        refine lv_iload_n X.1 X.2.1 (dck_at da_X11_again 23 rfl) rfl (lv_at hl 1 rfl) ?_
        refine lv_iconst X.1 X.2.1 (dck_at da_X11_again 24 rfl) ki_1 ?_
        obtain ⟨r5, s5, hc, h⟩ := gB2_some h
        refine gr_backi Y (gr_runV (as := [.int a1, .int (1 : Int32)]) (rest := []) X G Y (ok_c_State_bestOf hc) cv_RX11_249 clC_1 ⟨Nat.le_of_ble_eq_true rfl, Nat.le_of_ble_eq_true rfl⟩ rfl hl.1 (Nat.le_of_ble_eq_true rfl) (dck_at da_X11_again 25 rfl)) (fun H locs Y => ?_)
        refine lv_istore_n (lv' := [(3, .int r5), (0, .ref (ad 0)), (1, .int a1), (2, .int a2)]) X.1 X.2.1 (dck_at da_X11_again 26 rfl) rfl hl (by decide) rfl (fun ls hl => ?_)
        refine lv_iload_n X.1 X.2.1 (dck_at da_X11_again 27 rfl) rfl (lv_at hl 0 rfl) ?_
        refine lv_if_ge (tgt := 63) X.1 X.2.1 (dck_at da_X11_again 28 rfl) rfl (fun c => ?_) (fun c => ?_)
        · have h := gI_pos h c
          refine lv_iload_n X.1 X.2.1 (dck_at da_X11_again 33 rfl) rfl (lv_at hl 3 rfl) ?_
          refine lv_if_ne (tgt := 71) X.1 X.2.1 (dck_at da_X11_again 34 rfl) rfl (fun c => ?_) (fun c => ?_)
          · have h := gI_neg h c
            refine lv_aload_n X.1 X.2.1 (dck_at da_X11_again 37 rfl) rfl (lv_at hl 1 rfl) ?_
            refine gr_getR X G Y fk_RX11_12 clC_0 rfl (dck_at da_X11_again 38 rfl) ?_
            refine lv_iload_n X.1 X.2.1 (dck_at da_X11_again 39 rfl) rfl (lv_at hl 2 rfl) ?_
            refine lv_iload_n X.1 X.2.1 (dck_at da_X11_again 40 rfl) rfl (lv_at hl 0 rfl) ?_
            obtain ⟨r6, s6, hc, h⟩ := gB2_some h
            refine gr_backi Y (gr_runV (as := [.int a1, .int r5]) (rest := []) X G Y (ok_c_State_isWorthMore hc) cv_RX11_253 clC_1 ⟨Nat.le_of_ble_eq_true rfl, Nat.le_of_ble_eq_true rfl⟩ rfl hl.1 (Nat.le_of_ble_eq_true rfl) (dck_at da_X11_again 41 rfl)) (fun H locs Y => ?_)
            refine lv_if_eq (tgt := 87) X.1 X.2.1 (dck_at da_X11_again 42 rfl) rfl (fun c => ?_) (fun c => ?_)
            · have h := gI_pos h c
              refine lv_iconst X.1 X.2.1 (dck_at da_X11_again 45 rfl) ki_0 ?_
              exact gr_iretO X Y h hr rfl hlk (dck_at da_X11_again 46 rfl)
            · have h := gI_neg h c
              refine lv_iconst X.1 X.2.1 (dck_at da_X11_again 43 rfl) ki_1 ?_
              refine lv_goto (tgt := 88) X.1 X.2.1 (dck_at da_X11_again 44 rfl) rfl ?_
              exact gr_iretO X Y h hr rfl hlk (dck_at da_X11_again 46 rfl)
          · have h := gI_pos h c
            refine lv_iload_n X.1 X.2.1 (dck_at da_X11_again 35 rfl) rfl (lv_at hl 0 rfl) ?_
            refine lv_goto (tgt := 88) X.1 X.2.1 (dck_at da_X11_again 36 rfl) rfl ?_
            exact gr_iretO X Y h hr rfl hlk (dck_at da_X11_again 46 rfl)
        · have h := gI_neg h c
          refine lv_aload_n X.1 X.2.1 (dck_at da_X11_again 29 rfl) rfl (lv_at hl 1 rfl) ?_
          refine lv_bipush X.1 X.2.1 (dck_at da_X11_again 30 rfl) kb_m4 ?_
          obtain ⟨r7, s7, hc, h⟩ := gB2_some h
          refine gr_backi Y (gr_runV (as := [.int (-4 : Int32)]) (rest := []) X G Y (ok_c_refuse hc) cv_RX11_55 clC_0 ⟨Nat.le_of_ble_eq_true rfl, Nat.le_of_ble_eq_true rfl⟩ rfl hl.1 (Nat.le_of_ble_eq_true rfl) (dck_at da_X11_again 31 rfl)) (fun H locs Y => ?_)
          exact gr_iretO X Y h hr rfl hlk (dck_at da_X11_again 32 rfl)
      · have h := gI_pos h c
        refine lv_aload_n X.1 X.2.1 (dck_at da_X11_again 17 rfl) rfl (lv_at hl 0 rfl) ?_
        refine lv_bipush X.1 X.2.1 (dck_at da_X11_again 18 rfl) kb_m2 ?_
        obtain ⟨r8, s8, hc, h⟩ := gB2_some h
        refine gr_backi Y (gr_runV (as := [.int (-2 : Int32)]) (rest := []) X G Y (ok_c_refuse hc) cv_RX11_55 clC_0 ⟨Nat.le_of_ble_eq_true rfl, Nat.le_of_ble_eq_true rfl⟩ rfl hl.1 (Nat.le_of_ble_eq_true rfl) (dck_at da_X11_again 19 rfl)) (fun H locs Y => ?_)
        exact gr_iretO X Y h hr rfl hlk (dck_at da_X11_again 20 rfl)
    · have h := gI_pos h c
      exact b16 s3 _ _ _ h Y (lv_sub hl [0] rfl)
set_option maxRecDepth 100000 in
set_option maxHeartbeats 4000000 in
theorem ok_c_Land_isNear {l : Launch} {D : va_G} {cy : Nat → ClassId} {ad sa : Nat → Nat} {A : Nat → Prop} {F : Nat} {a0 : Int32} {a1 : Int32} {a2 : Int32} {s0 : St} {ρ : Int32} {σ' : St} (h : c_Land_isNear F a0 a1 a2 s0 = some (ρ, σ')) : gMi l shC D cy ad sa A yX3_isNear cX3_isNear 3 (some .boolean) 2 [.int a0, .int a1, .int a2] s0 ρ σ' := by
  refine gM_of (by decide) (Nat.le_of_ble_eq_true rfl) ?_
  intro p e s m args below meth c ls X G Y hr hlk hl
  have hl : lv_has ls 3 [(0, .int a0), (1, .int a1), (2, .int a2)] := hl
  have b22 : ∀  (s0 : St) (H : Heap) (locs : List Loc) (ls : Array Slot), c_Land_isNear_J22 F  s0 = some (ρ, σ') → gY shC D cy ad A s0 s H locs → lv_has ls 3 [] → W p l e (grm 2) s m args below meth c H locs 0 0 (MQ below (va_Qi (fun (q : Int32) (_ : Unit) => q = ρ) (fun _ t => va_P D vwCl (gWl shC cy ad σ') t.heap) A) args s 0 0 A) (F0 m 22 ls []) := by
    intro s0 H locs ls h Y hl
    unfold c_Land_isNear_J22 at h
    refine lv_iconst X.1 X.2.1 (dck_at da_X3_isNear 12 rfl) ki_0 ?_
    exact gr_iretO X Y h hr rfl hlk (dck_at da_X3_isNear 13 rfl)
  unfold c_Land_isNear at h
  refine lv_iload_n X.1 X.2.1 (dck_at da_X3_isNear 0 rfl) rfl (lv_at hl 0 rfl) ?_
  refine lv_iload_n X.1 X.2.1 (dck_at da_X3_isNear 1 rfl) rfl (lv_at hl 1 rfl) ?_
  obtain ⟨r1, s1, hc, h⟩ := gB2_some h
  refine gr_backi Y (gr_runS (as := [.int a0, .int a1]) (rest := []) X G Y (ok_c_Land_rowsApart hc) cs_RX3_51 ⟨Nat.le_of_ble_eq_true rfl, Nat.le_of_ble_eq_true rfl⟩ rfl hl.1 (Nat.le_of_ble_eq_true rfl) (dck_at da_X3_isNear 2 rfl)) (fun H locs Y => ?_)
  refine lv_iload_n X.1 X.2.1 (dck_at da_X3_isNear 3 rfl) rfl (lv_at hl 2 rfl) ?_
  refine lv_icmp_gt (tgt := 22) X.1 X.2.1 (dck_at da_X3_isNear 4 rfl) rfl (fun c => ?_) (fun c => ?_)
  · have h := gI_pos h c
    exact b22 s1 _ _ _ h Y (lv_sub hl [] rfl)
  · have h := gI_neg h c
    refine lv_iload_n X.1 X.2.1 (dck_at da_X3_isNear 5 rfl) rfl (lv_at hl 0 rfl) ?_
    refine lv_iload_n X.1 X.2.1 (dck_at da_X3_isNear 6 rfl) rfl (lv_at hl 1 rfl) ?_
    obtain ⟨r2, s2, hc, h⟩ := gB2_some h
    refine gr_backi Y (gr_runS (as := [.int a0, .int a1]) (rest := []) X G Y (ok_c_Land_columnsApart hc) cs_RX3_54 ⟨Nat.le_of_ble_eq_true rfl, Nat.le_of_ble_eq_true rfl⟩ rfl hl.1 (Nat.le_of_ble_eq_true rfl) (dck_at da_X3_isNear 7 rfl)) (fun H locs Y => ?_)
    refine lv_iload_n X.1 X.2.1 (dck_at da_X3_isNear 8 rfl) rfl (lv_at hl 2 rfl) ?_
    refine lv_icmp_gt (tgt := 22) X.1 X.2.1 (dck_at da_X3_isNear 9 rfl) rfl (fun c => ?_) (fun c => ?_)
    · have h := gI_pos h c
      exact b22 s2 _ _ _ h Y (lv_sub hl [] rfl)
    · have h := gI_neg h c
      refine lv_iconst X.1 X.2.1 (dck_at da_X3_isNear 10 rfl) ki_1 ?_
      refine lv_goto (tgt := 23) X.1 X.2.1 (dck_at da_X3_isNear 11 rfl) rfl ?_
      exact gr_iretO X Y h hr rfl hlk (dck_at da_X3_isNear 13 rfl)
set_option maxRecDepth 100000 in
set_option maxHeartbeats 4000000 in
theorem ok_c_Night_doubtFarther {l : Launch} {D : va_G} {cy : Nat → ClassId} {ad sa : Nat → Nat} {A : Nat → Prop} {F : Nat} {a1 : Int32} {a2 : Int32} {a3 : Int32} {s0 : St} {σ' : St} (h : c_Night_doubtFarther F a1 a2 a3 s0 = some σ') : gMv l shC D cy ad sa A yX6_doubtFarther cX6_doubtFarther 7 none 3 [.ref (ad 9), .int a1, .int a2, .int a3] s0 σ' := by
  refine gM_of (by decide) (Nat.le_of_ble_eq_true rfl) ?_
  intro p e s m args below meth c ls X G Y hr hlk hl
  have hl : lv_has ls 7 [(0, .ref (ad 9)), (1, .int a1), (2, .int a2), (3, .int a3)] := hl
  have b3 : ∀ n : Nat, ∀ (x1 : Int32) (x2 : Int32) (x3 : Int32) (x4 : Int32) (s0 : St) (H : Heap) (locs : List Loc) (ls : Array Slot), c_Night_doubtFarther_L3 F  n x1 x2 x3 x4 s0 = some σ' → gY shC D cy ad A s0 s H locs → lv_has ls 7 [(0, .ref (ad 9)), (1, .int x1), (2, .int x2), (3, .int x3), (4, .int x4)] → W p l e (grm 3) s m args below meth c H locs 0 0 (MQ below (va_Qv (fun (_ : Unit) => True) (fun _ t => va_P D vwCl (gWl shC cy ad σ') t.heap) A) args s 0 0 A) (F0 m 3 ls []) := by
    intro n
    induction n with
    | zero => intro x1 x2 x3 x4 s0 H locs ls h Y hl; exact (gnone h).elim
    | succ n hk3 =>
      have e : c_Night_doubtFarther_L3 F  (n + 1) = c_Night_doubtFarther_L3b F  (c_Night_doubtFarther_L3 F  n) := rfl
      rw [e]; clear e
      generalize c_Night_doubtFarther_L3 F  n = k3 at hk3 ⊢
      have b90 : ∀ (x1 : Int32) (x2 : Int32) (x3 : Int32) (x4 : Int32) (s0 : St) (H : Heap) (locs : List Loc) (ls : Array Slot), c_Night_doubtFarther_J90 F k3 x1 x2 x3 x4 s0 = some σ' → gY shC D cy ad A s0 s H locs → lv_has ls 7 [(0, .ref (ad 9)), (1, .int x1), (2, .int x2), (3, .int x3), (4, .int x4)] → W p l e (grm 3) s m args below meth c H locs 0 0 (MQ below (va_Qv (fun (_ : Unit) => True) (fun _ t => va_P D vwCl (gWl shC cy ad σ') t.heap) A) args s 0 0 A) (F0 m 90 ls []) := by
        intro x1 x2 x3 x4 s0 H locs ls h Y hl
        unfold c_Night_doubtFarther_J90 at h
        refine lv_iinc (v := x4 + (1 : Int32)) (lv' := [(4, .int (x4 + (1 : Int32))), (0, .ref (ad 9)), (1, .int x1), (2, .int x2), (3, .int x3)]) X.1 X.2.1 (dck_at da_X6_doubtFarther 50 rfl) hl (k := 4) rfl (congrArg (HAdd.hAdd _) ki_1) (by decide) rfl (fun ls hl => ?_)
        refine lv_goto (tgt := 3) X.1 X.2.1 (dck_at da_X6_doubtFarther 51 rfl) rfl ?_
        exact hk3 x1 x2 x3 (x4 + (1 : Int32)) s0 _ _ _ h Y (lv_sub hl [1, 2, 3, 4, 0] rfl)
      have b48 : ∀ n : Nat, ∀ (x1 : Int32) (x2 : Int32) (x3 : Int32) (x4 : Int32) (x5 : Int32) (s0 : St) (H : Heap) (locs : List Loc) (ls : Array Slot), c_Night_doubtFarther_L48 F k3 n x1 x2 x3 x4 x5 s0 = some σ' → gY shC D cy ad A s0 s H locs → lv_has ls 7 [(0, .ref (ad 9)), (1, .int x1), (2, .int x2), (3, .int x3), (4, .int x4), (5, .int x5)] → W p l e (grm 3) s m args below meth c H locs 0 0 (MQ below (va_Qv (fun (_ : Unit) => True) (fun _ t => va_P D vwCl (gWl shC cy ad σ') t.heap) A) args s 0 0 A) (F0 m 48 ls []) := by
        intro n
        induction n with
        | zero => intro x1 x2 x3 x4 x5 s0 H locs ls h Y hl; exact (gnone h).elim
        | succ n hk48 =>
          have e : c_Night_doubtFarther_L48 F k3 (n + 1) = c_Night_doubtFarther_L48b F k3 (c_Night_doubtFarther_L48 F k3 n) := rfl
          rw [e]; clear e
          generalize c_Night_doubtFarther_L48 F k3 n = k48 at hk48 ⊢
          intro x1 x2 x3 x4 x5 s0 H locs ls h Y hl
          unfold c_Night_doubtFarther_L48b at h
          refine lv_iload X.1 X.2.1 (dck_at da_X6_doubtFarther 26 rfl) (lv_at hl 5 rfl) ?_
          refine lv_iconst X.1 X.2.1 (dck_at da_X6_doubtFarther 27 rfl) ki_4 ?_
          refine lv_icmp_ge (tgt := 90) X.1 X.2.1 (dck_at da_X6_doubtFarther 28 rfl) rfl (fun c => ?_) (fun c => ?_)
          · have h := gI_pos h c
            exact b90 x1 x2 x3 x4 s0 _ _ _ h Y (lv_sub hl [0, 1, 2, 3, 4] rfl)
          · have h := gI_neg h c
            refine lv_iload X.1 X.2.1 (dck_at da_X6_doubtFarther 29 rfl) (lv_at hl 4 rfl) ?_
            refine lv_iconst X.1 X.2.1 (dck_at da_X6_doubtFarther 30 rfl) ki_4 ?_
            refine lv_imul X.1 X.2.1 (dck_at da_X6_doubtFarther 31 rfl) ?_
            refine lv_iload X.1 X.2.1 (dck_at da_X6_doubtFarther 32 rfl) (lv_at hl 5 rfl) ?_
            refine lv_iadd X.1 X.2.1 (dck_at da_X6_doubtFarther 33 rfl) ?_
            refine lv_istore (lv' := [(6, .int ((x4 * (4 : Int32)) + x5)), (0, .ref (ad 9)), (1, .int x1), (2, .int x2), (3, .int x3), (4, .int x4), (5, .int x5)]) X.1 X.2.1 (dck_at da_X6_doubtFarther 34 rfl) hl (by decide) rfl (fun ls hl => ?_)
            refine lv_aload_n X.1 X.2.1 (dck_at da_X6_doubtFarther 35 rfl) rfl (lv_at hl 1 rfl) ?_
            refine gr_getR X G Y fk_RX6_9 clC_9 rfl (dck_at da_X6_doubtFarther 36 rfl) ?_
            refine lv_iload X.1 X.2.1 (dck_at da_X6_doubtFarther 37 rfl) (lv_at hl 0 rfl) ?_
            refine lv_aload_n X.1 X.2.1 (dck_at da_X6_doubtFarther 38 rfl) rfl (lv_at hl 1 rfl) ?_
            refine gr_getR X G Y fk_RX6_9 clC_9 rfl (dck_at da_X6_doubtFarther 39 rfl) ?_
            refine lv_iload X.1 X.2.1 (dck_at da_X6_doubtFarther 40 rfl) (lv_at hl 0 rfl) ?_
            obtain ⟨hin, h⟩ := gI_if h
            refine gr_lald X G Y clC_10 hin (dck_at da_X6_doubtFarther 41 rfl) ?_
            refine lv_iload_n X.1 X.2.1 (dck_at da_X6_doubtFarther 42 rfl) rfl (lv_at hl 4 rfl) ?_
            refine lv_i2l (v := (x3).toInt64) X.1 X.2.1 (dck_at da_X6_doubtFarther 43 rfl) rfl ?_
            refine lv_lmul X.1 X.2.1 (dck_at da_X6_doubtFarther 44 rfl) ?_
            refine lv_ldc2 X.1 X.2.1 X.2.2.2.1 (X.2.2.2.2 _ wm_725) (dck_at da_X6_doubtFarther 45 rfl) ?_
            refine lv_ldiv X.1 X.2.1 (dck_at da_X6_doubtFarther 46 rfl) (by decide) ?_
            obtain ⟨hin, h⟩ := gI_if h
            refine gr_last X G Y clC_10 hin (dck_at da_X6_doubtFarther 47 rfl) (fun H locs Y => ?_)
            refine lv_iinc (v := x5 + (1 : Int32)) (lv' := [(5, .int (x5 + (1 : Int32))), (6, .int ((x4 * (4 : Int32)) + x5)), (0, .ref (ad 9)), (1, .int x1), (2, .int x2), (3, .int x3), (4, .int x4)]) X.1 X.2.1 (dck_at da_X6_doubtFarther 48 rfl) hl (k := 6) rfl (congrArg (HAdd.hAdd _) ki_1) (by decide) rfl (fun ls hl => ?_)
            refine lv_goto (tgt := 48) X.1 X.2.1 (dck_at da_X6_doubtFarther 49 rfl) rfl ?_
            exact hk48 x1 x2 x3 x4 (x5 + (1 : Int32)) (sJ s0 10 ((x4 * (4 : Int32)) + x5).toNatClampNeg (((s0.2 10 ((x4 * (4 : Int32)) + x5).toNatClampNeg) * ((x3).toInt64)) / (16 : Int64))) _ _ _ h Y (lv_sub hl [2, 3, 4, 5, 6, 0] rfl)
      intro x1 x2 x3 x4 s0 H locs ls h Y hl
      unfold c_Night_doubtFarther_L3b at h
      refine lv_iload X.1 X.2.1 (dck_at da_X6_doubtFarther 2 rfl) (lv_at hl 4 rfl) ?_
      refine lv_sipush X.1 X.2.1 (dck_at da_X6_doubtFarther 3 rfl) ks_144 ?_
      refine lv_icmp_ge (tgt := 96) X.1 X.2.1 (dck_at da_X6_doubtFarther 4 rfl) rfl (fun c => ?_) (fun c => ?_)
      · have h := gI_pos h c
        exact gr_vretO X Y h hr hlk (dck_at da_X6_doubtFarther 52 rfl)
      · have h := gI_neg h c
        refine lv_iload_n X.1 X.2.1 (dck_at da_X6_doubtFarther 5 rfl) rfl (lv_at hl 1 rfl) ?_
        refine lv_iload X.1 X.2.1 (dck_at da_X6_doubtFarther 6 rfl) (lv_at hl 4 rfl) ?_
        refine lv_iload_n X.1 X.2.1 (dck_at da_X6_doubtFarther 7 rfl) rfl (lv_at hl 2 rfl) ?_
        obtain ⟨r1, s1, hc, h⟩ := gB2_some h
        refine gr_backi Y (gr_runS (as := [.int x1, .int x4, .int x2]) (rest := []) X G Y (ok_c_Land_isNear hc) cs_RX6_99 ⟨Nat.le_of_ble_eq_true rfl, Nat.le_of_ble_eq_true rfl⟩ rfl hl.1 (Nat.le_of_ble_eq_true rfl) (dck_at da_X6_doubtFarther 8 rfl)) (fun H locs Y => ?_)
        refine lv_if_eq (tgt := 24) X.1 X.2.1 (dck_at da_X6_doubtFarther 9 rfl) rfl (fun c => ?_) (fun c => ?_)
        · have h := gI_pos h c
          refine lv_aload_n X.1 X.2.1 (dck_at da_X6_doubtFarther 11 rfl) rfl (lv_at hl 0 rfl) ?_
          refine gr_getR X G Y fk_RX6_15 clC_9 rfl (dck_at da_X6_doubtFarther 12 rfl) ?_
          refine lv_iload X.1 X.2.1 (dck_at da_X6_doubtFarther 13 rfl) (lv_at hl 4 rfl) ?_
          refine lv_aload_n X.1 X.2.1 (dck_at da_X6_doubtFarther 14 rfl) rfl (lv_at hl 0 rfl) ?_
          refine gr_getR X G Y fk_RX6_15 clC_9 rfl (dck_at da_X6_doubtFarther 15 rfl) ?_
          refine lv_iload X.1 X.2.1 (dck_at da_X6_doubtFarther 16 rfl) (lv_at hl 4 rfl) ?_
          obtain ⟨hin, h⟩ := gI_if h
          refine gr_lald X G Y clC_11 hin (dck_at da_X6_doubtFarther 17 rfl) ?_
          refine lv_iload_n X.1 X.2.1 (dck_at da_X6_doubtFarther 18 rfl) rfl (lv_at hl 3 rfl) ?_
          refine lv_i2l (v := (x3).toInt64) X.1 X.2.1 (dck_at da_X6_doubtFarther 19 rfl) rfl ?_
          refine lv_lmul X.1 X.2.1 (dck_at da_X6_doubtFarther 20 rfl) ?_
          refine lv_ldc2 X.1 X.2.1 X.2.2.2.1 (X.2.2.2.2 _ wm_725) (dck_at da_X6_doubtFarther 21 rfl) ?_
          refine lv_ldiv X.1 X.2.1 (dck_at da_X6_doubtFarther 22 rfl) (by decide) ?_
          obtain ⟨hin, h⟩ := gI_if h
          refine gr_last X G Y clC_11 hin (dck_at da_X6_doubtFarther 23 rfl) (fun H locs Y => ?_)
          refine lv_iconst X.1 X.2.1 (dck_at da_X6_doubtFarther 24 rfl) ki_0 ?_
          refine lv_istore (lv' := [(5, .int (0 : Int32)), (0, .ref (ad 9)), (1, .int x1), (2, .int x2), (3, .int x3), (4, .int x4)]) X.1 X.2.1 (dck_at da_X6_doubtFarther 25 rfl) hl (by decide) rfl (fun ls hl => ?_)
          exact b48 F x1 x2 x3 x4 (0 : Int32) (sJ s1 11 (x4).toNatClampNeg (((s1.2 11 (x4).toNatClampNeg) * ((x3).toInt64)) / (16 : Int64))) _ _ _ h Y (lv_sub hl [1, 2, 3, 4, 5, 0] rfl)
        · have h := gI_neg h c
          refine lv_goto (tgt := 90) X.1 X.2.1 (dck_at da_X6_doubtFarther 10 rfl) rfl ?_
          exact b90 x1 x2 x3 x4 s1 _ _ _ h Y (lv_sub hl [0, 1, 2, 3, 4] rfl)
  unfold c_Night_doubtFarther at h
  refine lv_iconst X.1 X.2.1 (dck_at da_X6_doubtFarther 0 rfl) ki_0 ?_
  refine lv_istore (lv' := [(4, .int (0 : Int32)), (0, .ref (ad 9)), (1, .int a1), (2, .int a2), (3, .int a3)]) X.1 X.2.1 (dck_at da_X6_doubtFarther 1 rfl) hl (by decide) rfl (fun ls hl => ?_)
  exact b3 F a1 a2 a3 (0 : Int32) s0 _ _ _ h Y (lv_sub hl [1, 2, 3, 4, 0] rfl)
set_option maxRecDepth 100000 in
set_option maxHeartbeats 4000000 in
theorem ok_c_call {l : Launch} {D : va_G} {cy : Nat → ClassId} {ad sa : Nat → Nat} {A : Nat → Prop} {F : Nat} {a1 : Int32} {a2 : Int32} {a3 : Int32} {s0 : St} {ρ : Int32} {σ' : St} (h : c_call F a1 a2 a3 s0 = some (ρ, σ')) : gMi l shC D cy ad sa A yX11_call cX11_call 6 (some .int) 4 [.ref (ad 0), .int a1, .int a2, .int a3] s0 ρ σ' := by
  refine gM_of (by decide) (Nat.le_of_ble_eq_true rfl) ?_
  intro p e s m args below meth c ls X G Y hr hlk hl
  have hl : lv_has ls 6 [(0, .ref (ad 0)), (1, .int a1), (2, .int a2), (3, .int a3)] := hl
  have b27 : ∀  (s0 : St) (H : Heap) (locs : List Loc) (ls : Array Slot), c_call_J27 F  s0 = some (ρ, σ') → gY shC D cy ad A s0 s H locs → lv_has ls 6 [(0, .ref (ad 0))] → W p l e (grm 4) s m args below meth c H locs 0 0 (MQ below (va_Qi (fun (q : Int32) (_ : Unit) => q = ρ) (fun _ t => va_P D vwCl (gWl shC cy ad σ') t.heap) A) args s 0 0 A) (F0 m 27 ls []) := by
    intro s0 H locs ls h Y hl
    unfold c_call_J27 at h
    refine lv_aload_n X.1 X.2.1 (dck_at da_X11_call 13 rfl) rfl (lv_at hl 0 rfl) ?_
    refine lv_iconst X.1 X.2.1 (dck_at da_X11_call 14 rfl) ki_m1 ?_
    obtain ⟨r1, s1, hc, h⟩ := gB2_some h
    refine gr_backi Y (gr_runV (as := [.int (-1 : Int32)]) (rest := []) X G Y (ok_c_refuse hc) cv_RX11_55 clC_0 ⟨Nat.le_of_ble_eq_true rfl, Nat.le_of_ble_eq_true rfl⟩ rfl hl.1 (Nat.le_of_ble_eq_true rfl) (dck_at da_X11_call 15 rfl)) (fun H locs Y => ?_)
    exact gr_iretO X Y h hr rfl hlk (dck_at da_X11_call 16 rfl)
  unfold c_call at h
  refine lv_iload_n X.1 X.2.1 (dck_at da_X11_call 0 rfl) rfl (lv_at hl 1 rfl) ?_
  obtain ⟨r2, s2, hc, h⟩ := gB2_some h
  refine gr_backi Y (gr_runS (as := [.int a1]) (rest := []) X G Y (ok_c_isCell hc) cs_RX11_48 ⟨Nat.le_of_ble_eq_true rfl, Nat.le_of_ble_eq_true rfl⟩ rfl hl.1 (Nat.le_of_ble_eq_true rfl) (dck_at da_X11_call 1 rfl)) (fun H locs Y => ?_)
  refine lv_if_eq (tgt := 27) X.1 X.2.1 (dck_at da_X11_call 2 rfl) rfl (fun c => ?_) (fun c => ?_)
  · have h := gI_pos h c
    exact b27 s2 _ _ _ h Y (lv_sub hl [0] rfl)
  · have h := gI_neg h c
    refine lv_iload_n X.1 X.2.1 (dck_at da_X11_call 3 rfl) rfl (lv_at hl 2 rfl) ?_
    refine lv_iconst X.1 X.2.1 (dck_at da_X11_call 4 rfl) ki_0 ?_
    refine lv_bipush X.1 X.2.1 (dck_at da_X11_call 5 rfl) kb_9 ?_
    obtain ⟨r3, s3, hc, h⟩ := gB2_some h
    refine gr_backi Y (gr_runS (as := [.int a2, .int (0 : Int32), .int (9 : Int32)]) (rest := []) X G Y (ok_c_isIn hc) cs_RX11_68 ⟨Nat.le_of_ble_eq_true rfl, Nat.le_of_ble_eq_true rfl⟩ rfl hl.1 (Nat.le_of_ble_eq_true rfl) (dck_at da_X11_call 6 rfl)) (fun H locs Y => ?_)
    refine lv_if_eq (tgt := 27) X.1 X.2.1 (dck_at da_X11_call 7 rfl) rfl (fun c => ?_) (fun c => ?_)
    · have h := gI_pos h c
      exact b27 s3 _ _ _ h Y (lv_sub hl [0] rfl)
    · have h := gI_neg h c
      refine lv_iload_n X.1 X.2.1 (dck_at da_X11_call 8 rfl) rfl (lv_at hl 3 rfl) ?_
      refine lv_iconst X.1 X.2.1 (dck_at da_X11_call 9 rfl) ki_0 ?_
      refine lv_bipush X.1 X.2.1 (dck_at da_X11_call 10 rfl) kb_15 ?_
      obtain ⟨r4, s4, hc, h⟩ := gB2_some h
      refine gr_backi Y (gr_runS (as := [.int a3, .int (0 : Int32), .int (15 : Int32)]) (rest := []) X G Y (ok_c_isIn hc) cs_RX11_68 ⟨Nat.le_of_ble_eq_true rfl, Nat.le_of_ble_eq_true rfl⟩ rfl hl.1 (Nat.le_of_ble_eq_true rfl) (dck_at da_X11_call 11 rfl)) (fun H locs Y => ?_)
      refine lv_if_ne (tgt := 33) X.1 X.2.1 (dck_at da_X11_call 12 rfl) rfl (fun c => ?_) (fun c => ?_)
      · have h := gI_neg h c
        refine lv_aload_n X.1 X.2.1 (dck_at da_X11_call 17 rfl) rfl (lv_at hl 0 rfl) ?_
        refine gr_getR X G Y fk_RX11_12 clC_0 rfl (dck_at da_X11_call 18 rfl) ?_
        refine gr_getR X G Y fk_RX11_122 clC_1 rfl (dck_at da_X11_call 19 rfl) ?_
        obtain ⟨r5, s5, hc, h⟩ := gB2_some h
        refine gr_backi Y (gr_runV (as := []) (rest := []) X G Y (ok_c_Night_isOut hc) cv_RX11_132 clC_9 ⟨Nat.le_of_ble_eq_true rfl, Nat.le_of_ble_eq_true rfl⟩ rfl hl.1 (Nat.le_of_ble_eq_true rfl) (dck_at da_X11_call 20 rfl)) (fun H locs Y => ?_)
        refine lv_if_ne (tgt := 53) X.1 X.2.1 (dck_at da_X11_call 21 rfl) rfl (fun c => ?_) (fun c => ?_)
        · have h := gI_neg h c
          refine lv_aload_n X.1 X.2.1 (dck_at da_X11_call 26 rfl) rfl (lv_at hl 0 rfl) ?_
          refine gr_getR X G Y fk_RX11_12 clC_0 rfl (dck_at da_X11_call 27 rfl) ?_
          refine gr_getR X G Y fk_RX11_122 clC_1 rfl (dck_at da_X11_call 28 rfl) ?_
          obtain ⟨r6, s6, hc, h⟩ := gB2_some h
          refine gr_backl Y (gr_runV (as := []) (rest := []) X G Y (ok_c_Night_all hc) cv_RX11_158 clC_9 ⟨Nat.le_of_ble_eq_true rfl, Nat.le_of_ble_eq_true rfl⟩ rfl hl.1 (Nat.le_of_ble_eq_true rfl) (dck_at da_X11_call 29 rfl)) (fun H locs Y => ?_)
          refine lv_lstore (lv' := [(4, .long r6), (0, .ref (ad 0)), (1, .int a1), (2, .int a2), (3, .int a3)]) X.1 X.2.1 (dck_at da_X11_call 30 rfl) hl (by decide) rfl (fun ls hl => ?_)
          refine lv_lload X.1 X.2.1 (dck_at da_X11_call 31 rfl) (lv_at hl 0 rfl) ?_
          refine lv_lconst (v := 0) X.1 X.2.1 (dck_at da_X11_call 32 rfl) rfl ?_
          refine W.lcmp X.1 X.2.1 (dck_at da_X11_call 33 rfl) ?_
          refine lv_if_gt (tgt := 79) X.1 X.2.1 (dck_at da_X11_call 34 rfl) rfl (fun c => ?_) (fun c => ?_)
          · have h := gI_pos h c
            refine lv_aload_n X.1 X.2.1 (dck_at da_X11_call 39 rfl) rfl (lv_at hl 1 rfl) ?_
            refine gr_getR X G Y fk_RX11_12 clC_0 rfl (dck_at da_X11_call 40 rfl) ?_
            refine gr_getR X G Y fk_RX11_122 clC_1 rfl (dck_at da_X11_call 41 rfl) ?_
            refine lv_iload_n X.1 X.2.1 (dck_at da_X11_call 42 rfl) rfl (lv_at hl 2 rfl) ?_
            refine lv_iload_n X.1 X.2.1 (dck_at da_X11_call 43 rfl) rfl (lv_at hl 3 rfl) ?_
            refine lv_bipush X.1 X.2.1 (dck_at da_X11_call 44 rfl) kb_16 ?_
            refine lv_iload_n X.1 X.2.1 (dck_at da_X11_call 45 rfl) rfl (lv_at hl 4 rfl) ?_
            refine lv_isub X.1 X.2.1 (dck_at da_X11_call 46 rfl) ?_
            obtain ⟨s7, hc, h⟩ := gB_some h
            refine gr_backv Y (gr_runV (as := [.int a1, .int a2, .int ((16 : Int32) - a3)]) (rest := []) X G Y (ok_c_Night_doubtFarther hc) cv_RX11_257 clC_9 ⟨Nat.le_of_ble_eq_true rfl, Nat.le_of_ble_eq_true rfl⟩ rfl hl.1 (Nat.le_of_ble_eq_true rfl) (dck_at da_X11_call 47 rfl)) (fun H locs Y => ?_)
            refine lv_aload_n X.1 X.2.1 (dck_at da_X11_call 48 rfl) rfl (lv_at hl 1 rfl) ?_
            refine gr_getR X G Y fk_RX11_12 clC_0 rfl (dck_at da_X11_call 49 rfl) ?_
            refine gr_getR X G Y fk_RX11_122 clC_1 rfl (dck_at da_X11_call 50 rfl) ?_
            obtain ⟨r8, s8, hc, h⟩ := gB2_some h
            refine gr_backl Y (gr_runV (as := []) (rest := []) X G Y (ok_c_Night_all hc) cv_RX11_158 clC_9 ⟨Nat.le_of_ble_eq_true rfl, Nat.le_of_ble_eq_true rfl⟩ rfl hl.1 (Nat.le_of_ble_eq_true rfl) (dck_at da_X11_call 51 rfl)) (fun H locs Y => ?_)
            refine lv_lload X.1 X.2.1 (dck_at da_X11_call 52 rfl) (lv_at hl 0 rfl) ?_
            obtain ⟨r9, s9, hc, h⟩ := gB2_some h
            refine gr_backi Y (gr_runS (as := [.long r8, .long r6]) (rest := []) X G Y (ok_c_thousandths hc) cs_RX11_220 ⟨Nat.le_of_ble_eq_true rfl, Nat.le_of_ble_eq_true rfl⟩ rfl hl.1 (Nat.le_of_ble_eq_true rfl) (dck_at da_X11_call 53 rfl)) (fun H locs Y => ?_)
            exact gr_iretO X Y h hr rfl hlk (dck_at da_X11_call 54 rfl)
          · have h := gI_neg h c
            refine lv_aload_n X.1 X.2.1 (dck_at da_X11_call 35 rfl) rfl (lv_at hl 1 rfl) ?_
            refine lv_bipush X.1 X.2.1 (dck_at da_X11_call 36 rfl) kb_m4 ?_
            obtain ⟨r10, s10, hc, h⟩ := gB2_some h
            refine gr_backi Y (gr_runV (as := [.int (-4 : Int32)]) (rest := []) X G Y (ok_c_refuse hc) cv_RX11_55 clC_0 ⟨Nat.le_of_ble_eq_true rfl, Nat.le_of_ble_eq_true rfl⟩ rfl hl.1 (Nat.le_of_ble_eq_true rfl) (dck_at da_X11_call 37 rfl)) (fun H locs Y => ?_)
            exact gr_iretO X Y h hr rfl hlk (dck_at da_X11_call 38 rfl)
        · have h := gI_pos h c
          refine lv_aload_n X.1 X.2.1 (dck_at da_X11_call 22 rfl) rfl (lv_at hl 0 rfl) ?_
          refine lv_bipush X.1 X.2.1 (dck_at da_X11_call 23 rfl) kb_m2 ?_
          obtain ⟨r11, s11, hc, h⟩ := gB2_some h
          refine gr_backi Y (gr_runV (as := [.int (-2 : Int32)]) (rest := []) X G Y (ok_c_refuse hc) cv_RX11_55 clC_0 ⟨Nat.le_of_ble_eq_true rfl, Nat.le_of_ble_eq_true rfl⟩ rfl hl.1 (Nat.le_of_ble_eq_true rfl) (dck_at da_X11_call 24 rfl)) (fun H locs Y => ?_)
          exact gr_iretO X Y h hr rfl hlk (dck_at da_X11_call 25 rfl)
      · have h := gI_pos h c
        exact b27 s4 _ _ _ h Y (lv_sub hl [0] rfl)
set_option maxRecDepth 100000 in
set_option maxHeartbeats 4000000 in
theorem ok_c_Night_near {l : Launch} {D : va_G} {cy : Nat → ClassId} {ad sa : Nat → Nat} {A : Nat → Prop} {F : Nat} {a1 : Int32} {a2 : Int32} {s0 : St} {ρ : Int64} {σ' : St} (h : c_Night_near F a1 a2 s0 = some (ρ, σ')) : gMl l shC D cy ad sa A yX6_near cX6_near 6 (some .long) 3 [.ref (ad 9), .int a1, .int a2] s0 ρ σ' := by
  refine gM_of (by decide) (Nat.le_of_ble_eq_true rfl) ?_
  intro p e s m args below meth c ls X G Y hr hlk hl
  have hl : lv_has ls 6 [(0, .ref (ad 9)), (1, .int a1), (2, .int a2)] := hl
  have b5 : ∀ n : Nat, ∀ (x1 : Int32) (x2 : Int32) (x3 : Int64) (x5 : Int32) (s0 : St) (H : Heap) (locs : List Loc) (ls : Array Slot), c_Night_near_L5 F  n x1 x2 x3 x5 s0 = some (ρ, σ') → gY shC D cy ad A s0 s H locs → lv_has ls 6 [(0, .ref (ad 9)), (1, .int x1), (2, .int x2), (3, .long x3), (5, .int x5)] → W p l e (grm 3) s m args below meth c H locs 0 0 (MQ below (va_Ql (fun (q : Int64) (_ : Unit) => q = ρ) (fun _ t => va_P D vwCl (gWl shC cy ad σ') t.heap) A) args s 0 0 A) (F0 m 5 ls []) := by
    intro n
    induction n with
    | zero => intro x1 x2 x3 x5 s0 H locs ls h Y hl; exact (gnone h).elim
    | succ n hk5 =>
      have e : c_Night_near_L5 F  (n + 1) = c_Night_near_L5b F  (c_Night_near_L5 F  n) := rfl
      rw [e]; clear e
      generalize c_Night_near_L5 F  n = k5 at hk5 ⊢
      have b32 : ∀ (x1 : Int32) (x2 : Int32) (x3 : Int64) (x5 : Int32) (s0 : St) (H : Heap) (locs : List Loc) (ls : Array Slot), c_Night_near_J32 F k5 x1 x2 x3 x5 s0 = some (ρ, σ') → gY shC D cy ad A s0 s H locs → lv_has ls 6 [(0, .ref (ad 9)), (1, .int x1), (2, .int x2), (3, .long x3), (5, .int x5)] → W p l e (grm 3) s m args below meth c H locs 0 0 (MQ below (va_Ql (fun (q : Int64) (_ : Unit) => q = ρ) (fun _ t => va_P D vwCl (gWl shC cy ad σ') t.heap) A) args s 0 0 A) (F0 m 32 ls []) := by
        intro x1 x2 x3 x5 s0 H locs ls h Y hl
        unfold c_Night_near_J32 at h
        refine lv_iinc (v := x5 + (1 : Int32)) (lv' := [(5, .int (x5 + (1 : Int32))), (0, .ref (ad 9)), (1, .int x1), (2, .int x2), (3, .long x3)]) X.1 X.2.1 (dck_at da_X6_near 18 rfl) hl (k := 4) rfl (congrArg (HAdd.hAdd _) ki_1) (by decide) rfl (fun ls hl => ?_)
        refine lv_goto (tgt := 5) X.1 X.2.1 (dck_at da_X6_near 19 rfl) rfl ?_
        exact hk5 x1 x2 x3 (x5 + (1 : Int32)) s0 _ _ _ h Y (lv_sub hl [1, 2, 3, 4, 0] rfl)
      intro x1 x2 x3 x5 s0 H locs ls h Y hl
      unfold c_Night_near_L5b at h
      refine lv_iload X.1 X.2.1 (dck_at da_X6_near 4 rfl) (lv_at hl 4 rfl) ?_
      refine lv_sipush X.1 X.2.1 (dck_at da_X6_near 5 rfl) ks_144 ?_
      refine lv_icmp_ge (tgt := 38) X.1 X.2.1 (dck_at da_X6_near 6 rfl) rfl (fun c => ?_) (fun c => ?_)
      · have h := gI_pos h c
        refine lv_lload_n X.1 X.2.1 (dck_at da_X6_near 20 rfl) rfl (lv_at hl 3 rfl) ?_
        exact gr_lretO X Y h hr hlk (dck_at da_X6_near 21 rfl)
      · have h := gI_neg h c
        refine lv_iload_n X.1 X.2.1 (dck_at da_X6_near 7 rfl) rfl (lv_at hl 1 rfl) ?_
        refine lv_iload X.1 X.2.1 (dck_at da_X6_near 8 rfl) (lv_at hl 4 rfl) ?_
        refine lv_iload_n X.1 X.2.1 (dck_at da_X6_near 9 rfl) rfl (lv_at hl 2 rfl) ?_
        obtain ⟨r1, s1, hc, h⟩ := gB2_some h
        refine gr_backi Y (gr_runS (as := [.int x1, .int x5, .int x2]) (rest := []) X G Y (ok_c_Land_isNear hc) cs_RX6_99 ⟨Nat.le_of_ble_eq_true rfl, Nat.le_of_ble_eq_true rfl⟩ rfl hl.1 (Nat.le_of_ble_eq_true rfl) (dck_at da_X6_near 10 rfl)) (fun H locs Y => ?_)
        refine lv_if_eq (tgt := 32) X.1 X.2.1 (dck_at da_X6_near 11 rfl) rfl (fun c => ?_) (fun c => ?_)
        · have h := gI_pos h c
          exact b32 x1 x2 x3 x5 s1 _ _ _ h Y (lv_sub hl [0, 1, 2, 3, 4] rfl)
        · have h := gI_neg h c
          refine lv_lload_n X.1 X.2.1 (dck_at da_X6_near 12 rfl) rfl (lv_at hl 3 rfl) ?_
          refine lv_aload_n X.1 X.2.1 (dck_at da_X6_near 13 rfl) rfl (lv_at hl 0 rfl) ?_
          refine lv_iload X.1 X.2.1 (dck_at da_X6_near 14 rfl) (lv_at hl 4 rfl) ?_
          obtain ⟨r2, s2, hc, h⟩ := gB2_some h
          refine gr_backl Y (gr_runV (as := [.int x5]) (rest := [.long x3]) X G Y (ok_c_Night_together hc) cv_RX6_43 clC_9 ⟨Nat.le_of_ble_eq_true rfl, Nat.le_of_ble_eq_true rfl⟩ rfl hl.1 (Nat.le_of_ble_eq_true rfl) (dck_at da_X6_near 15 rfl)) (fun H locs Y => ?_)
          refine lv_ladd X.1 X.2.1 (dck_at da_X6_near 16 rfl) ?_
          refine lv_lstore_n (lv' := [(3, .long (x3 + r2)), (0, .ref (ad 9)), (1, .int x1), (2, .int x2), (5, .int x5)]) X.1 X.2.1 (dck_at da_X6_near 17 rfl) rfl hl (by decide) rfl (fun ls hl => ?_)
          exact b32 x1 x2 (x3 + r2) x5 s2 _ _ _ h Y (lv_sub hl [1, 2, 3, 0, 4] rfl)
  unfold c_Night_near at h
  refine lv_lconst (v := 0) X.1 X.2.1 (dck_at da_X6_near 0 rfl) rfl ?_
  refine lv_lstore_n (lv' := [(3, .long (0 : Int64)), (0, .ref (ad 9)), (1, .int a1), (2, .int a2)]) X.1 X.2.1 (dck_at da_X6_near 1 rfl) rfl hl (by decide) rfl (fun ls hl => ?_)
  refine lv_iconst X.1 X.2.1 (dck_at da_X6_near 2 rfl) ki_0 ?_
  refine lv_istore (lv' := [(5, .int (0 : Int32)), (3, .long (0 : Int64)), (0, .ref (ad 9)), (1, .int a1), (2, .int a2)]) X.1 X.2.1 (dck_at da_X6_near 3 rfl) hl (by decide) rfl (fun ls hl => ?_)
  exact b5 F a1 a2 (0 : Int64) (0 : Int32) s0 _ _ _ h Y (lv_sub hl [2, 3, 4, 1, 0] rfl)
