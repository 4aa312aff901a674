/-! each method does what its mirror says -/
set_option maxRecDepth 100000 in
set_option maxHeartbeats 4000000 in
theorem ok_c_Land_cellsNear {l : Launch} {D : va_G} {cy : Nat → ClassId} {ad sa : Nat → Nat} {A : Nat → Prop} {F : Nat} {a0 : Int32} {a1 : Int32} {s0 : St} {ρ : Int32} {σ' : St} (h : c_Land_cellsNear F a0 a1 s0 = some (ρ, σ')) : gMi l shC D cy ad sa A yX3_cellsNear cX3_cellsNear 4 (some .int) 3 [.int a0, .int a1] s0 ρ σ' := by
  refine gM_of (by decide) (Nat.le_of_ble_eq_true rfl) ?_
  intro p e s m args below meth c ls X G Y hr hlk hl
  have hl : lv_has ls 4 [(0, .int a0), (1, .int a1)] := hl
  have b4 : ∀ n : Nat, ∀ (x0 : Int32) (x1 : Int32) (x2 : Int32) (x3 : Int32) (s0 : St) (H : Heap) (locs : List Loc) (ls : Array Slot), c_Land_cellsNear_L4 F  n x0 x1 x2 x3 s0 = some (ρ, σ') → gY shC D cy ad A s0 s H locs → lv_has ls 4 [(0, .int x0), (1, .int x1), (2, .int x2), (3, .int x3)] → W p l e (grm 3) s m args below meth c H locs 0 0 (MQ below (va_Qi (fun (q : Int32) (_ : Unit) => q = ρ) (fun _ t => va_P D vwCl (gWl shC cy ad σ') t.heap) A) args s 0 0 A) (F0 m 4 ls []) := by
    intro n
    induction n with
    | zero => intro x0 x1 x2 x3 s0 H locs ls h Y hl; exact (gnone h).elim
    | succ n hk4 =>
      have e : c_Land_cellsNear_L4 F  (n + 1) = c_Land_cellsNear_L4b F  (c_Land_cellsNear_L4 F  n) := rfl
      rw [e]; clear e
      generalize c_Land_cellsNear_L4 F  n = k4 at hk4 ⊢
      have b23 : ∀ (x0 : Int32) (x1 : Int32) (x2 : Int32) (x3 : Int32) (s0 : St) (H : Heap) (locs : List Loc) (ls : Array Slot), c_Land_cellsNear_J23 F k4 x0 x1 x2 x3 s0 = some (ρ, σ') → gY shC D cy ad A s0 s H locs → lv_has ls 4 [(0, .int x0), (1, .int x1), (2, .int x2), (3, .int x3)] → W p l e (grm 3) s m args below meth c H locs 0 0 (MQ below (va_Qi (fun (q : Int32) (_ : Unit) => q = ρ) (fun _ t => va_P D vwCl (gWl shC cy ad σ') t.heap) A) args s 0 0 A) (F0 m 23 ls []) := by
        intro x0 x1 x2 x3 s0 H locs ls h Y hl
        unfold c_Land_cellsNear_J23 at h
        refine lv_iinc (v := x3 + (1 : Int32)) (lv' := [(3, .int (x3 + (1 : Int32))), (0, .int x0), (1, .int x1), (2, .int x2)]) X.1 X.2.1 (dck_at da_X3_cellsNear 13 rfl) hl (k := 3) rfl (congrArg (HAdd.hAdd _) ki_1) (by decide) rfl (fun ls hl => ?_)
        refine lv_goto (tgt := 4) X.1 X.2.1 (dck_at da_X3_cellsNear 14 rfl) rfl ?_
        exact hk4 x0 x1 x2 (x3 + (1 : Int32)) s0 _ _ _ h Y (lv_sub hl [1, 2, 3, 0] rfl)
      intro x0 x1 x2 x3 s0 H locs ls h Y hl
      unfold c_Land_cellsNear_L4b at h
      refine lv_iload_n X.1 X.2.1 (dck_at da_X3_cellsNear 4 rfl) rfl (lv_at hl 3 rfl) ?_
      refine lv_sipush X.1 X.2.1 (dck_at da_X3_cellsNear 5 rfl) ks_144 ?_
      refine lv_icmp_ge (tgt := 29) X.1 X.2.1 (dck_at da_X3_cellsNear 6 rfl) rfl (fun c => ?_) (fun c => ?_)
      · have h := gI_pos h c
        refine lv_iload_n X.1 X.2.1 (dck_at da_X3_cellsNear 15 rfl) rfl (lv_at hl 2 rfl) ?_
        exact gr_iretO X Y h hr rfl hlk (dck_at da_X3_cellsNear 16 rfl)
      · have h := gI_neg h c
        refine lv_iload_n X.1 X.2.1 (dck_at da_X3_cellsNear 7 rfl) rfl (lv_at hl 0 rfl) ?_
        refine lv_iload_n X.1 X.2.1 (dck_at da_X3_cellsNear 8 rfl) rfl (lv_at hl 3 rfl) ?_
        refine lv_iload_n X.1 X.2.1 (dck_at da_X3_cellsNear 9 rfl) rfl (lv_at hl 1 rfl) ?_
        obtain ⟨r1, s1, hc, h⟩ := gB2_some h
        refine gr_backi Y (gr_runS (as := [.int x0, .int x3, .int x1]) (rest := []) X G Y (ok_c_Land_isNear hc) cs_RX3_57 ⟨Nat.le_of_ble_eq_true rfl, Nat.le_of_ble_eq_true rfl⟩ rfl hl.1 (Nat.le_of_ble_eq_true rfl) (dck_at da_X3_cellsNear 10 rfl)) (fun H locs Y => ?_)
        refine lv_if_eq (tgt := 23) X.1 X.2.1 (dck_at da_X3_cellsNear 11 rfl) rfl (fun c => ?_) (fun c => ?_)
        · have h := gI_pos h c
          exact b23 x0 x1 x2 x3 s1 _ _ _ h Y (lv_sub hl [0, 1, 2, 3] rfl)
        · have h := gI_neg h c
          refine lv_iinc (v := x2 + (1 : Int32)) (lv' := [(2, .int (x2 + (1 : Int32))), (0, .int x0), (1, .int x1), (3, .int x3)]) X.1 X.2.1 (dck_at da_X3_cellsNear 12 rfl) hl (k := 2) rfl (congrArg (HAdd.hAdd _) ki_1) (by decide) rfl (fun ls hl => ?_)
          exact b23 x0 x1 (x2 + (1 : Int32)) x3 s1 _ _ _ h Y (lv_sub hl [1, 2, 0, 3] rfl)
  unfold c_Land_cellsNear at h
  refine lv_iconst X.1 X.2.1 (dck_at da_X3_cellsNear 0 rfl) ki_0 ?_
  refine lv_istore_n (lv' := [(2, .int (0 : Int32)), (0, .int a0), (1, .int a1)]) X.1 X.2.1 (dck_at da_X3_cellsNear 1 rfl) rfl hl (by decide) rfl (fun ls hl => ?_)
  refine lv_iconst X.1 X.2.1 (dck_at da_X3_cellsNear 2 rfl) ki_0 ?_
  refine lv_istore_n (lv' := [(3, .int (0 : Int32)), (2, .int (0 : Int32)), (0, .int a0), (1, .int a1)]) X.1 X.2.1 (dck_at da_X3_cellsNear 3 rfl) rfl hl (by decide) rfl (fun ls hl => ?_)
  exact b4 F a0 a1 (0 : Int32) (0 : Int32) s0 _ _ _ h Y (lv_sub hl [2, 3, 1, 0] rfl)
set_option maxRecDepth 100000 in
set_option maxHeartbeats 4000000 in
theorem ok_c_truly {l : Launch} {D : va_G} {cy : Nat → ClassId} {ad sa : Nat → Nat} {A : Nat → Prop} {F : Nat} {a1 : Int32} {a2 : Int32} {a3 : Int32} {a4 : Int32} {s0 : St} {ρ : Int64} {σ' : St} (h : c_truly F a1 a2 a3 a4 s0 = some (ρ, σ')) : gMl l shC D cy ad sa A yX11_truly cX11_truly 11 (some .long) 4 [.ref (ad 0), .int a1, .int a2, .int a3, .int a4] s0 ρ σ' := by
  refine gM_of (by decide) (Nat.le_of_ble_eq_true rfl) ?_
  intro p e s m args below meth c ls X G Y hr hlk hl
  have hl : lv_has ls 11 [(0, .ref (ad 0)), (1, .int a1), (2, .int a2), (3, .int a3), (4, .int a4)] := hl
  have b35 : ∀  (s0 : St) (H : Heap) (locs : List Loc) (ls : Array Slot), c_truly_J35 F  s0 = some (ρ, σ') → gY shC D cy ad A s0 s H locs → lv_has ls 11 [(0, .ref (ad 0))] → W p l e (grm 4) s m args below meth c H locs 0 0 (MQ below (va_Ql (fun (q : Int64) (_ : Unit) => q = ρ) (fun _ t => va_P D vwCl (gWl shC cy ad σ') t.heap) A) args s 0 0 A) (F0 m 35 ls []) := by
    intro s0 H locs ls h Y hl
    unfold c_truly_J35 at h
    refine lv_aload_n X.1 X.2.1 (dck_at da_X11_truly 16 rfl) rfl (lv_at hl 0 rfl) ?_
    refine lv_iconst X.1 X.2.1 (dck_at da_X11_truly 17 rfl) ki_m1 ?_
    obtain ⟨r1, s1, hc, h⟩ := gB2_some h
    refine gr_backi Y (gr_runV (as := [.int (-1 : Int32)]) (rest := []) X G Y (ok_c_refuse hc) cv_RX11_55 clC_0 ⟨Nat.le_of_ble_eq_true rfl, Nat.le_of_ble_eq_true rfl⟩ rfl hl.1 (Nat.le_of_ble_eq_true rfl) (dck_at da_X11_truly 18 rfl)) (fun H locs Y => ?_)
    refine lv_i2l (v := (r1).toInt64) X.1 X.2.1 (dck_at da_X11_truly 19 rfl) rfl ?_
    exact gr_lretO X Y h hr hlk (dck_at da_X11_truly 20 rfl)
  unfold c_truly at h
  refine lv_iload_n X.1 X.2.1 (dck_at da_X11_truly 0 rfl) rfl (lv_at hl 1 rfl) ?_
  obtain ⟨r2, s2, hc, h⟩ := gB2_some h
  refine gr_backi Y (gr_runS (as := [.int a1]) (rest := []) X G Y (ok_c_isCell hc) cs_RX11_48 ⟨Nat.le_of_ble_eq_true rfl, Nat.le_of_ble_eq_true rfl⟩ rfl hl.1 (Nat.le_of_ble_eq_true rfl) (dck_at da_X11_truly 1 rfl)) (fun H locs Y => ?_)
  refine lv_if_eq (tgt := 35) X.1 X.2.1 (dck_at da_X11_truly 2 rfl) rfl (fun c => ?_) (fun c => ?_)
  · have h := gI_pos h c
    exact b35 s2 _ _ _ h Y (lv_sub hl [0] rfl)
  · have h := gI_neg h c
    refine lv_iload_n X.1 X.2.1 (dck_at da_X11_truly 3 rfl) rfl (lv_at hl 2 rfl) ?_
    refine lv_iconst X.1 X.2.1 (dck_at da_X11_truly 4 rfl) ki_0 ?_
    refine lv_bipush X.1 X.2.1 (dck_at da_X11_truly 5 rfl) kb_9 ?_
    obtain ⟨r3, s3, hc, h⟩ := gB2_some h
    refine gr_backi Y (gr_runS (as := [.int a2, .int (0 : Int32), .int (9 : Int32)]) (rest := []) X G Y (ok_c_isIn hc) cs_RX11_68 ⟨Nat.le_of_ble_eq_true rfl, Nat.le_of_ble_eq_true rfl⟩ rfl hl.1 (Nat.le_of_ble_eq_true rfl) (dck_at da_X11_truly 6 rfl)) (fun H locs Y => ?_)
    refine lv_if_eq (tgt := 35) X.1 X.2.1 (dck_at da_X11_truly 7 rfl) rfl (fun c => ?_) (fun c => ?_)
    · have h := gI_pos h c
      exact b35 s3 _ _ _ h Y (lv_sub hl [0] rfl)
    · have h := gI_neg h c
      refine lv_iload_n X.1 X.2.1 (dck_at da_X11_truly 8 rfl) rfl (lv_at hl 3 rfl) ?_
      refine lv_iconst X.1 X.2.1 (dck_at da_X11_truly 9 rfl) ki_0 ?_
      refine lv_bipush X.1 X.2.1 (dck_at da_X11_truly 10 rfl) kb_15 ?_
      obtain ⟨r4, s4, hc, h⟩ := gB2_some h
      refine gr_backi Y (gr_runS (as := [.int a3, .int (0 : Int32), .int (15 : Int32)]) (rest := []) X G Y (ok_c_isIn hc) cs_RX11_68 ⟨Nat.le_of_ble_eq_true rfl, Nat.le_of_ble_eq_true rfl⟩ rfl hl.1 (Nat.le_of_ble_eq_true rfl) (dck_at da_X11_truly 11 rfl)) (fun H locs Y => ?_)
      refine lv_if_eq (tgt := 35) X.1 X.2.1 (dck_at da_X11_truly 12 rfl) rfl (fun c => ?_) (fun c => ?_)
      · have h := gI_pos h c
        exact b35 s4 _ _ _ h Y (lv_sub hl [0] rfl)
      · have h := gI_neg h c
        refine lv_iload X.1 X.2.1 (dck_at da_X11_truly 13 rfl) (lv_at hl 4 rfl) ?_
        obtain ⟨r5, s5, hc, h⟩ := gB2_some h
        refine gr_backi Y (gr_runS (as := [.int a4]) (rest := []) X G Y (ok_c_isPart hc) cs_RX11_155 ⟨Nat.le_of_ble_eq_true rfl, Nat.le_of_ble_eq_true rfl⟩ rfl hl.1 (Nat.le_of_ble_eq_true rfl) (dck_at da_X11_truly 14 rfl)) (fun H locs Y => ?_)
        refine lv_if_ne (tgt := 42) X.1 X.2.1 (dck_at da_X11_truly 15 rfl) rfl (fun c => ?_) (fun c => ?_)
        · have h := gI_neg h c
          refine lv_aload_n X.1 X.2.1 (dck_at da_X11_truly 21 rfl) rfl (lv_at hl 0 rfl) ?_
          refine gr_getR X G Y fk_RX11_12 clC_0 rfl (dck_at da_X11_truly 22 rfl) ?_
          refine gr_getR X G Y fk_RX11_122 clC_1 rfl (dck_at da_X11_truly 23 rfl) ?_
          obtain ⟨r6, s6, hc, h⟩ := gB2_some h
          refine gr_backi Y (gr_runV (as := []) (rest := []) X G Y (ok_c_Night_isOut hc) cv_RX11_132 clC_9 ⟨Nat.le_of_ble_eq_true rfl, Nat.le_of_ble_eq_true rfl⟩ rfl hl.1 (Nat.le_of_ble_eq_true rfl) (dck_at da_X11_truly 24 rfl)) (fun H locs Y => ?_)
          refine lv_if_ne (tgt := 63) X.1 X.2.1 (dck_at da_X11_truly 25 rfl) rfl (fun c => ?_) (fun c => ?_)
          · have h := gI_neg h c
            refine lv_aload_n X.1 X.2.1 (dck_at da_X11_truly 31 rfl) rfl (lv_at hl 0 rfl) ?_
            refine gr_getR X G Y fk_RX11_12 clC_0 rfl (dck_at da_X11_truly 32 rfl) ?_
            refine gr_getR X G Y fk_RX11_122 clC_1 rfl (dck_at da_X11_truly 33 rfl) ?_
            obtain ⟨r7, s7, hc, h⟩ := gB2_some h
            refine gr_backl Y (gr_runV (as := []) (rest := []) X G Y (ok_c_Night_all hc) cv_RX11_158 clC_9 ⟨Nat.le_of_ble_eq_true rfl, Nat.le_of_ble_eq_true rfl⟩ rfl hl.1 (Nat.le_of_ble_eq_true rfl) (dck_at da_X11_truly 34 rfl)) (fun H locs Y => ?_)
            refine lv_lstore (lv' := [(5, .long r7), (0, .ref (ad 0)), (1, .int a1), (2, .int a2), (3, .int a3), (4, .int a4)]) X.1 X.2.1 (dck_at da_X11_truly 35 rfl) hl (by decide) rfl (fun ls hl => ?_)
            refine lv_lload X.1 X.2.1 (dck_at da_X11_truly 36 rfl) (lv_at hl 0 rfl) ?_
            refine lv_lconst (v := 0) X.1 X.2.1 (dck_at da_X11_truly 37 rfl) rfl ?_
            refine W.lcmp X.1 X.2.1 (dck_at da_X11_truly 38 rfl) ?_
            refine lv_if_gt (tgt := 90) X.1 X.2.1 (dck_at da_X11_truly 39 rfl) rfl (fun c => ?_) (fun c => ?_)
            · have h := gI_pos h c
              refine lv_aload_n X.1 X.2.1 (dck_at da_X11_truly 45 rfl) rfl (lv_at hl 1 rfl) ?_
              refine gr_getR X G Y fk_RX11_12 clC_0 rfl (dck_at da_X11_truly 46 rfl) ?_
              refine gr_getR X G Y fk_RX11_122 clC_1 rfl (dck_at da_X11_truly 47 rfl) ?_
              refine lv_iload_n X.1 X.2.1 (dck_at da_X11_truly 48 rfl) rfl (lv_at hl 2 rfl) ?_
              refine lv_iload_n X.1 X.2.1 (dck_at da_X11_truly 49 rfl) rfl (lv_at hl 3 rfl) ?_
              obtain ⟨r8, s8, hc, h⟩ := gB2_some h
              refine gr_backl Y (gr_runV (as := [.int a1, .int a2]) (rest := []) X G Y (ok_c_Night_near hc) cv_RX11_261 clC_9 ⟨Nat.le_of_ble_eq_true rfl, Nat.le_of_ble_eq_true rfl⟩ rfl hl.1 (Nat.le_of_ble_eq_true rfl) (dck_at da_X11_truly 50 rfl)) (fun H locs Y => ?_)
              refine lv_iload_n X.1 X.2.1 (dck_at da_X11_truly 51 rfl) rfl (lv_at hl 4 rfl) ?_
              refine lv_i2l (v := (a3).toInt64) X.1 X.2.1 (dck_at da_X11_truly 52 rfl) rfl ?_
              refine lv_lmul X.1 X.2.1 (dck_at da_X11_truly 53 rfl) ?_
              refine lv_ldc2 X.1 X.2.1 X.2.2.2.1 (X.2.2.2.2 _ wm_841) (dck_at da_X11_truly 54 rfl) ?_
              refine lv_lmul X.1 X.2.1 (dck_at da_X11_truly 55 rfl) ?_
              refine lv_lstore (lv' := [(7, .long ((r8 * ((a3).toInt64)) * (144 : Int64))), (5, .long r7), (0, .ref (ad 0)), (1, .int a1), (2, .int a2), (3, .int a3), (4, .int a4)]) X.1 X.2.1 (dck_at da_X11_truly 56 rfl) hl (by decide) rfl (fun ls hl => ?_)
              refine lv_lload X.1 X.2.1 (dck_at da_X11_truly 57 rfl) (lv_at hl 1 rfl) ?_
              refine lv_bipush X.1 X.2.1 (dck_at da_X11_truly 58 rfl) kb_16 ?_
              refine lv_iload_n X.1 X.2.1 (dck_at da_X11_truly 59 rfl) rfl (lv_at hl 5 rfl) ?_
              refine lv_isub X.1 X.2.1 (dck_at da_X11_truly 60 rfl) ?_
              refine lv_i2l (v := ((16 : Int32) - a3).toInt64) X.1 X.2.1 (dck_at da_X11_truly 61 rfl) rfl ?_
              refine lv_lmul X.1 X.2.1 (dck_at da_X11_truly 62 rfl) ?_
              refine lv_iload_n X.1 X.2.1 (dck_at da_X11_truly 63 rfl) rfl (lv_at hl 3 rfl) ?_
              refine lv_iload_n X.1 X.2.1 (dck_at da_X11_truly 64 rfl) rfl (lv_at hl 4 rfl) ?_
              obtain ⟨r9, s9, hc, h⟩ := gB2_some h
              refine gr_backi Y (gr_runS (as := [.int a1, .int a2]) (rest := [.long (r7 * (((16 : Int32) - a3).toInt64))]) X G Y (ok_c_Land_cellsNear hc) cs_RX11_266 ⟨Nat.le_of_ble_eq_true rfl, Nat.le_of_ble_eq_true rfl⟩ rfl hl.1 (Nat.le_of_ble_eq_true rfl) (dck_at da_X11_truly 65 rfl)) (fun H locs Y => ?_)
              refine lv_i2l (v := (r9).toInt64) X.1 X.2.1 (dck_at da_X11_truly 66 rfl) rfl ?_
              refine lv_lmul X.1 X.2.1 (dck_at da_X11_truly 67 rfl) ?_
              refine lv_lstore (lv' := [(9, .long ((r7 * (((16 : Int32) - a3).toInt64)) * ((r9).toInt64))), (7, .long ((r8 * ((a3).toInt64)) * (144 : Int64))), (5, .long r7), (0, .ref (ad 0)), (1, .int a1), (2, .int a2), (3, .int a3), (4, .int a4)]) X.1 X.2.1 (dck_at da_X11_truly 68 rfl) hl (by decide) rfl (fun ls hl => ?_)
              refine lv_lload X.1 X.2.1 (dck_at da_X11_truly 69 rfl) (lv_at hl 1 rfl) ?_
              refine lv_lload X.1 X.2.1 (dck_at da_X11_truly 70 rfl) (lv_at hl 1 rfl) ?_
              refine lv_lload X.1 X.2.1 (dck_at da_X11_truly 71 rfl) (lv_at hl 0 rfl) ?_
              refine lv_ladd X.1 X.2.1 (dck_at da_X11_truly 72 rfl) ?_
              refine lv_iload X.1 X.2.1 (dck_at da_X11_truly 73 rfl) (lv_at hl 7 rfl) ?_
              obtain ⟨r10, s10, hc, h⟩ := gB2_some h
              refine gr_backl Y (gr_runS (as := [.long ((r8 * ((a3).toInt64)) * (144 : Int64)), .long (((r8 * ((a3).toInt64)) * (144 : Int64)) + ((r7 * (((16 : Int32) - a3).toInt64)) * ((r9).toInt64))), .int a4]) (rest := []) X G Y (ok_c_lowest hc) cs_RX11_162 ⟨Nat.le_of_ble_eq_true rfl, Nat.le_of_ble_eq_true rfl⟩ rfl hl.1 (Nat.le_of_ble_eq_true rfl) (dck_at da_X11_truly 74 rfl)) (fun H locs Y => ?_)
              exact gr_lretO X Y h hr hlk (dck_at da_X11_truly 75 rfl)
            · have h := gI_neg h c
              refine lv_aload_n X.1 X.2.1 (dck_at da_X11_truly 40 rfl) rfl (lv_at hl 1 rfl) ?_
              refine lv_bipush X.1 X.2.1 (dck_at da_X11_truly 41 rfl) kb_m4 ?_
              obtain ⟨r11, s11, hc, h⟩ := gB2_some h
              refine gr_backi Y (gr_runV (as := [.int (-4 : Int32)]) (rest := []) X G Y (ok_c_refuse hc) cv_RX11_55 clC_0 ⟨Nat.le_of_ble_eq_true rfl, Nat.le_of_ble_eq_true rfl⟩ rfl hl.1 (Nat.le_of_ble_eq_true rfl) (dck_at da_X11_truly 42 rfl)) (fun H locs Y => ?_)
              refine lv_i2l (v := (r11).toInt64) X.1 X.2.1 (dck_at da_X11_truly 43 rfl) rfl ?_
              exact gr_lretO X Y h hr hlk (dck_at da_X11_truly 44 rfl)
          · have h := gI_pos h c
            refine lv_aload_n X.1 X.2.1 (dck_at da_X11_truly 26 rfl) rfl (lv_at hl 0 rfl) ?_
            refine lv_bipush X.1 X.2.1 (dck_at da_X11_truly 27 rfl) kb_m2 ?_
            obtain ⟨r12, s12, hc, h⟩ := gB2_some h
            refine gr_backi Y (gr_runV (as := [.int (-2 : Int32)]) (rest := []) X G Y (ok_c_refuse hc) cv_RX11_55 clC_0 ⟨Nat.le_of_ble_eq_true rfl, Nat.le_of_ble_eq_true rfl⟩ rfl hl.1 (Nat.le_of_ble_eq_true rfl) (dck_at da_X11_truly 28 rfl)) (fun H locs Y => ?_)
            refine lv_i2l (v := (r12).toInt64) X.1 X.2.1 (dck_at da_X11_truly 29 rfl) rfl ?_
            exact gr_lretO X Y h hr hlk (dck_at da_X11_truly 30 rfl)
        · have h := gI_pos h c
          exact b35 s5 _ _ _ h Y (lv_sub hl [0] rfl)
set_option maxRecDepth 100000 in
set_option maxHeartbeats 4000000 in
theorem ok_c_Jobs_add {l : Launch} {D : va_G} {cy : Nat → ClassId} {ad sa : Nat → Nat} {A : Nat → Prop} {F : Nat} {a1 : Int32} {a2 : Int32} {a3 : Int32} {s0 : St} {ρ : Int32} {σ' : St} (h : c_Jobs_add F a1 a2 a3 s0 = some (ρ, σ')) : gMi l shC D cy ad sa A yX2_add cX2_add 4 (some .int) 1 [.ref (ad 22), .int a1, .int a2, .int a3] s0 ρ σ' := by
  refine gM_of (by decide) (Nat.le_of_ble_eq_true rfl) ?_
  intro p e s m args below meth c ls X G Y hr hlk hl
  have hl : lv_has ls 4 [(0, .ref (ad 22)), (1, .int a1), (2, .int a2), (3, .int a3)] := hl
  unfold c_Jobs_add at h
  refine lv_aload_n X.1 X.2.1 (dck_at da_X2_add 0 rfl) rfl (lv_at hl 0 rfl) ?_
  refine gr_getI X G Y fk_RX2_27 clC_22 rfl (dck_at da_X2_add 1 rfl) ?_
  refine lv_bipush X.1 X.2.1 (dck_at da_X2_add 2 rfl) kb_6 ?_
  refine lv_icmp_lt (tgt := 12) X.1 X.2.1 (dck_at da_X2_add 3 rfl) rfl (fun c => ?_) (fun c => ?_)
  · have h := gI_pos h c
    refine lv_aload_n X.1 X.2.1 (dck_at da_X2_add 6 rfl) rfl (lv_at hl 0 rfl) ?_
    refine gr_getR X G Y fk_RX2_11 clC_22 rfl (dck_at da_X2_add 7 rfl) ?_
    refine lv_aload_n X.1 X.2.1 (dck_at da_X2_add 8 rfl) rfl (lv_at hl 0 rfl) ?_
    refine gr_getI X G Y fk_RX2_27 clC_22 rfl (dck_at da_X2_add 9 rfl) ?_
    refine lv_iload_n X.1 X.2.1 (dck_at da_X2_add 10 rfl) rfl (lv_at hl 1 rfl) ?_
    obtain ⟨hin, h⟩ := gI_if h
    refine gr_iast X G Y clC_23 hin (dck_at da_X2_add 11 rfl) (fun H locs Y => ?_)
    refine lv_aload_n X.1 X.2.1 (dck_at da_X2_add 12 rfl) rfl (lv_at hl 0 rfl) ?_
    refine gr_getR X G Y fk_RX2_15 clC_22 rfl (dck_at da_X2_add 13 rfl) ?_
    refine lv_aload_n X.1 X.2.1 (dck_at da_X2_add 14 rfl) rfl (lv_at hl 0 rfl) ?_
    refine gr_getI X G Y fk_RX2_27 clC_22 rfl (dck_at da_X2_add 15 rfl) ?_
    refine lv_iload_n X.1 X.2.1 (dck_at da_X2_add 16 rfl) rfl (lv_at hl 2 rfl) ?_
    obtain ⟨hin, h⟩ := gI_if h
    refine gr_iast X G Y clC_24 hin (dck_at da_X2_add 17 rfl) (fun H locs Y => ?_)
    refine lv_aload_n X.1 X.2.1 (dck_at da_X2_add 18 rfl) rfl (lv_at hl 0 rfl) ?_
    refine gr_getR X G Y fk_RX2_18 clC_22 rfl (dck_at da_X2_add 19 rfl) ?_
    refine lv_aload_n X.1 X.2.1 (dck_at da_X2_add 20 rfl) rfl (lv_at hl 0 rfl) ?_
    refine gr_getI X G Y fk_RX2_27 clC_22 rfl (dck_at da_X2_add 21 rfl) ?_
    refine lv_iload_n X.1 X.2.1 (dck_at da_X2_add 22 rfl) rfl (lv_at hl 3 rfl) ?_
    obtain ⟨hin, h⟩ := gI_if h
    refine gr_iast X G Y clC_25 hin (dck_at da_X2_add 23 rfl) (fun H locs Y => ?_)
    refine lv_aload_n X.1 X.2.1 (dck_at da_X2_add 24 rfl) rfl (lv_at hl 0 rfl) ?_
    refine lv_dup X.1 X.2.1 (dck_at da_X2_add 25 rfl) rfl ?_
    refine gr_getI X G Y fk_RX2_27 clC_22 rfl (dck_at da_X2_add 26 rfl) ?_
    refine lv_dup_x1 X.1 X.2.1 (dck_at da_X2_add 27 rfl) rfl rfl ?_
    refine lv_iconst X.1 X.2.1 (dck_at da_X2_add 28 rfl) ki_1 ?_
    refine lv_iadd X.1 X.2.1 (dck_at da_X2_add 29 rfl) ?_
    refine gr_putI X G Y fp_RX2_27 clC_22 rfl (dck_at da_X2_add 30 rfl) (fun H locs Y => ?_)
    exact gr_iretO X Y h hr rfl hlk (dck_at da_X2_add 31 rfl)
  · have h := gI_neg h c
    refine lv_bipush X.1 X.2.1 (dck_at da_X2_add 4 rfl) kb_m3 ?_
    exact gr_iretO X Y h hr rfl hlk (dck_at da_X2_add 5 rfl)
set_option maxRecDepth 100000 in
set_option maxHeartbeats 4000000 in
theorem ok_c_job {l : Launch} {D : va_G} {cy : Nat → ClassId} {ad sa : Nat → Nat} {A : Nat → Prop} {F : Nat} {a1 : Int32} {a2 : Int32} {a3 : Int32} {s0 : St} {ρ : Int32} {σ' : St} (h : c_job F a1 a2 a3 s0 = some (ρ, σ')) : gMi l shC D cy ad sa A yX11_job cX11_job 4 (some .int) 4 [.ref (ad 0), .int a1, .int a2, .int a3] s0 ρ σ' := by
  refine gM_of (by decide) (Nat.le_of_ble_eq_true rfl) ?_
  intro p e s m args below meth c ls X G Y hr hlk hl
  have hl : lv_has ls 4 [(0, .ref (ad 0)), (1, .int a1), (2, .int a2), (3, .int a3)] := hl
  have b24 : ∀  (s0 : St) (H : Heap) (locs : List Loc) (ls : Array Slot), c_job_J24 F  s0 = some (ρ, σ') → gY shC D cy ad A s0 s H locs → lv_has ls 4 [(0, .ref (ad 0))] → W p l e (grm 4) s m args below meth c H locs 0 0 (MQ below (va_Qi (fun (q : Int32) (_ : Unit) => q = ρ) (fun _ t => va_P D vwCl (gWl shC cy ad σ') t.heap) A) args s 0 0 A) (F0 m 24 ls []) := by
    intro s0 H locs ls h Y hl
    unfold c_job_J24 at h
    refine lv_aload_n X.1 X.2.1 (dck_at da_X11_job 11 rfl) rfl (lv_at hl 0 rfl) ?_
    refine lv_iconst X.1 X.2.1 (dck_at da_X11_job 12 rfl) ki_m1 ?_
    obtain ⟨r1, s1, hc, h⟩ := gB2_some h
    refine gr_backi Y (gr_runV (as := [.int (-1 : Int32)]) (rest := []) X G Y (ok_c_refuse hc) cv_RX11_55 clC_0 ⟨Nat.le_of_ble_eq_true rfl, Nat.le_of_ble_eq_true rfl⟩ rfl hl.1 (Nat.le_of_ble_eq_true rfl) (dck_at da_X11_job 13 rfl)) (fun H locs Y => ?_)
    exact gr_iretO X Y h hr rfl hlk (dck_at da_X11_job 14 rfl)
  unfold c_job at h
  refine lv_iload_n X.1 X.2.1 (dck_at da_X11_job 0 rfl) rfl (lv_at hl 1 rfl) ?_
  obtain ⟨r2, s2, hc, h⟩ := gB2_some h
  refine gr_backi Y (gr_runS (as := [.int a1]) (rest := []) X G Y (ok_c_isCell hc) cs_RX11_48 ⟨Nat.le_of_ble_eq_true rfl, Nat.le_of_ble_eq_true rfl⟩ rfl hl.1 (Nat.le_of_ble_eq_true rfl) (dck_at da_X11_job 1 rfl)) (fun H locs Y => ?_)
  refine lv_if_eq (tgt := 24) X.1 X.2.1 (dck_at da_X11_job 2 rfl) rfl (fun c => ?_) (fun c => ?_)
  · have h := gI_pos h c
    exact b24 s2 _ _ _ h Y (lv_sub hl [0] rfl)
  · have h := gI_neg h c
    refine lv_iload_n X.1 X.2.1 (dck_at da_X11_job 3 rfl) rfl (lv_at hl 2 rfl) ?_
    obtain ⟨r3, s3, hc, h⟩ := gB2_some h
    refine gr_backi Y (gr_runS (as := [.int a2]) (rest := []) X G Y (ok_c_isSort hc) cs_RX11_209 ⟨Nat.le_of_ble_eq_true rfl, Nat.le_of_ble_eq_true rfl⟩ rfl hl.1 (Nat.le_of_ble_eq_true rfl) (dck_at da_X11_job 4 rfl)) (fun H locs Y => ?_)
    refine lv_if_eq (tgt := 24) X.1 X.2.1 (dck_at da_X11_job 5 rfl) rfl (fun c => ?_) (fun c => ?_)
    · have h := gI_pos h c
      exact b24 s3 _ _ _ h Y (lv_sub hl [0] rfl)
    · have h := gI_neg h c
      refine lv_iload_n X.1 X.2.1 (dck_at da_X11_job 6 rfl) rfl (lv_at hl 3 rfl) ?_
      refine lv_iconst X.1 X.2.1 (dck_at da_X11_job 7 rfl) ki_1 ?_
      refine lv_bipush X.1 X.2.1 (dck_at da_X11_job 8 rfl) kb_60 ?_
      obtain ⟨r4, s4, hc, h⟩ := gB2_some h
      refine gr_backi Y (gr_runS (as := [.int a3, .int (1 : Int32), .int (60 : Int32)]) (rest := []) X G Y (ok_c_isIn hc) cs_RX11_68 ⟨Nat.le_of_ble_eq_true rfl, Nat.le_of_ble_eq_true rfl⟩ rfl hl.1 (Nat.le_of_ble_eq_true rfl) (dck_at da_X11_job 9 rfl)) (fun H locs Y => ?_)
      refine lv_if_ne (tgt := 30) X.1 X.2.1 (dck_at da_X11_job 10 rfl) rfl (fun c => ?_) (fun c => ?_)
      · have h := gI_neg h c
        refine lv_aload_n X.1 X.2.1 (dck_at da_X11_job 15 rfl) rfl (lv_at hl 0 rfl) ?_
        refine lv_aload_n X.1 X.2.1 (dck_at da_X11_job 16 rfl) rfl (lv_at hl 0 rfl) ?_
        refine gr_getR X G Y fk_RX11_12 clC_0 rfl (dck_at da_X11_job 17 rfl) ?_
        refine gr_getR X G Y fk_RX11_182 clC_1 rfl (dck_at da_X11_job 18 rfl) ?_
        refine lv_iload_n X.1 X.2.1 (dck_at da_X11_job 19 rfl) rfl (lv_at hl 1 rfl) ?_
        refine lv_iload_n X.1 X.2.1 (dck_at da_X11_job 20 rfl) rfl (lv_at hl 2 rfl) ?_
        refine lv_iload_n X.1 X.2.1 (dck_at da_X11_job 21 rfl) rfl (lv_at hl 3 rfl) ?_
        obtain ⟨r5, s5, hc, h⟩ := gB2_some h
        refine gr_backi Y (gr_runV (as := [.int a1, .int a2, .int a3]) (rest := [.ref (ad 0)]) X G Y (ok_c_Jobs_add hc) cv_RX11_270 clC_22 ⟨Nat.le_of_ble_eq_true rfl, Nat.le_of_ble_eq_true rfl⟩ rfl hl.1 (Nat.le_of_ble_eq_true rfl) (dck_at da_X11_job 22 rfl)) (fun H locs Y => ?_)
        obtain ⟨r6, s6, hc, h⟩ := gB2_some h
        refine gr_backi Y (gr_runV (as := [.int r5]) (rest := []) X G Y (ok_c_answered hc) cv_RX11_109 clC_0 ⟨Nat.le_of_ble_eq_true rfl, Nat.le_of_ble_eq_true rfl⟩ rfl hl.1 (Nat.le_of_ble_eq_true rfl) (dck_at da_X11_job 23 rfl)) (fun H locs Y => ?_)
        exact gr_iretO X Y h hr rfl hlk (dck_at da_X11_job 24 rfl)
      · have h := gI_pos h c
        exact b24 s4 _ _ _ h Y (lv_sub hl [0] rfl)
set_option maxRecDepth 100000 in
set_option maxHeartbeats 4000000 in
theorem ok_c_Jobs_line_r {l : Launch} {D : va_G} {cy : Nat → ClassId} {ad sa : Nat → Nat} {A : Nat → Prop} {F : Nat} : ∀ (n : Nat) (a2 : Int32) (a3 : Int32) (a4 : Int32) (a5 : Int64) (s0 : St) (σ' : St), c_Jobs_line F n a2 a3 a4 a5 s0 = some σ' → gMv l shC D cy ad sa A yX2_line cX2_line 9 none (4 + n) [.ref (ad 22), .ref (ad 1), .int a2, .int a3, .int a4, .long a5] s0 σ' := by
  intro n
  induction n
  case zero =>
    intro a2 a3 a4 a5 s0 σ' h
    exact (gnone h).elim
  rename_i N ih
  intro a2 a3 a4 a5 s0 σ' h
  have e : c_Jobs_line F (N + 1) = c_Jobs_line_b F (c_Jobs_line F N) := rfl
  rw [e] at h; clear e
  generalize c_Jobs_line F N = self at h ih
  refine gM_of (by decide) (Nat.le_of_ble_eq_true rfl) ?_
  intro p e s m args below meth c ls X G Y hr hlk hl
  have hl : lv_has ls 9 [(0, .ref (ad 22)), (1, .ref (ad 1)), (2, .int a2), (3, .int a3), (4, .int a4), (5, .long a5)] := hl
  have b43 : ∀ n : Nat, ∀ (x2 : Int32) (x3 : Int32) (x4 : Int32) (x5 : Int64) (x7 : Int32) (s0 : St) (H : Heap) (locs : List Loc) (ls : Array Slot), c_Jobs_line_L43 F self  n x2 x3 x4 x5 x7 s0 = some σ' → gY shC D cy ad A s0 s H locs → lv_has ls 9 [(0, .ref (ad 22)), (1, .ref (ad 1)), (2, .int x2), (3, .int x3), (4, .int x4), (5, .long x5), (7, .int x7)] → W p l e (grm (4 + (N + 1))) s m args below meth c H locs 0 0 (MQ below (va_Qv (fun (_ : Unit) => True) (fun _ t => va_P D vwCl (gWl shC cy ad σ') t.heap) A) args s 0 0 A) (F0 m 43 ls []) := by
    intro n
    induction n with
    | zero => intro x2 x3 x4 x5 x7 s0 H locs ls h Y hl; exact (gnone h).elim
    | succ n hk43 =>
      have e : c_Jobs_line_L43 F self  (n + 1) = c_Jobs_line_L43b F self  (c_Jobs_line_L43 F self  n) := rfl
      rw [e]; clear e
      generalize c_Jobs_line_L43 F self  n = k43 at hk43 ⊢
      have b125 : ∀ (x2 : Int32) (x3 : Int32) (x4 : Int32) (x5 : Int64) (x7 : Int32) (s0 : St) (H : Heap) (locs : List Loc) (ls : Array Slot), c_Jobs_line_J125 F self k43 x2 x3 x4 x5 x7 s0 = some σ' → gY shC D cy ad A s0 s H locs → lv_has ls 9 [(0, .ref (ad 22)), (1, .ref (ad 1)), (2, .int x2), (3, .int x3), (4, .int x4), (5, .long x5), (7, .int x7)] → W p l e (grm (4 + (N + 1))) s m args below meth c H locs 0 0 (MQ below (va_Qv (fun (_ : Unit) => True) (fun _ t => va_P D vwCl (gWl shC cy ad σ') t.heap) A) args s 0 0 A) (F0 m 125 ls []) := by
        intro x2 x3 x4 x5 x7 s0 H locs ls h Y hl
        unfold c_Jobs_line_J125 at h
        refine lv_iinc (v := x7 + (1 : Int32)) (lv' := [(7, .int (x7 + (1 : Int32))), (0, .ref (ad 22)), (1, .ref (ad 1)), (2, .int x2), (3, .int x3), (4, .int x4), (5, .long x5)]) X.1 X.2.1 (dck_at da_X2_line 72 rfl) hl (k := 6) rfl (congrArg (HAdd.hAdd _) ki_1) (by decide) rfl (fun ls hl => ?_)
        refine lv_goto (tgt := 43) X.1 X.2.1 (dck_at da_X2_line 73 rfl) rfl ?_
        exact hk43 x2 x3 x4 x5 (x7 + (1 : Int32)) s0 _ _ _ h Y (lv_sub hl [1, 2, 3, 4, 5, 6, 0] rfl)
      intro x2 x3 x4 x5 x7 s0 H locs ls h Y hl
      unfold c_Jobs_line_L43b at h
      refine lv_iload X.1 X.2.1 (dck_at da_X2_line 23 rfl) (lv_at hl 6 rfl) ?_
      refine lv_aload_n X.1 X.2.1 (dck_at da_X2_line 24 rfl) rfl (lv_at hl 0 rfl) ?_
      refine gr_getI X G Y fk_RX2_27 clC_22 rfl (dck_at da_X2_line 25 rfl) ?_
      refine lv_icmp_ge (tgt := 131) X.1 X.2.1 (dck_at da_X2_line 26 rfl) rfl (fun c => ?_) (fun c => ?_)
      · have h := gI_pos h c
        exact gr_vretO X Y h hr hlk (dck_at da_X2_line 74 rfl)
      · have h := gI_neg h c
        refine lv_iload_n X.1 X.2.1 (dck_at da_X2_line 27 rfl) rfl (lv_at hl 3 rfl) ?_
        refine lv_iconst X.1 X.2.1 (dck_at da_X2_line 28 rfl) ki_1 ?_
        refine lv_iload X.1 X.2.1 (dck_at da_X2_line 29 rfl) (lv_at hl 6 rfl) ?_
        refine lv_ishl X.1 X.2.1 (dck_at da_X2_line 30 rfl) ?_
        refine lv_iand X.1 X.2.1 (dck_at da_X2_line 31 rfl) ?_
        refine lv_if_eq (tgt := 64) X.1 X.2.1 (dck_at da_X2_line 32 rfl) rfl (fun c => ?_) (fun c => ?_)
        · have h := gI_pos h c
          refine lv_iload X.1 X.2.1 (dck_at da_X2_line 34 rfl) (lv_at hl 4 rfl) ?_
          refine lv_aload_n X.1 X.2.1 (dck_at da_X2_line 35 rfl) rfl (lv_at hl 0 rfl) ?_
          refine gr_getR X G Y fk_RX2_18 clC_22 rfl (dck_at da_X2_line 36 rfl) ?_
          refine lv_iload X.1 X.2.1 (dck_at da_X2_line 37 rfl) (lv_at hl 6 rfl) ?_
          obtain ⟨hin, h⟩ := gI_if h
          refine gr_iald X G Y clC_25 hin (dck_at da_X2_line 38 rfl) ?_
          refine lv_iadd X.1 X.2.1 (dck_at da_X2_line 39 rfl) ?_
          refine lv_istore (lv' := [(8, .int (x4 + (s0.1 25 (x7).toNatClampNeg))), (0, .ref (ad 22)), (1, .ref (ad 1)), (2, .int x2), (3, .int x3), (4, .int x4), (5, .long x5), (7, .int x7)]) X.1 X.2.1 (dck_at da_X2_line 40 rfl) hl (by decide) rfl (fun ls hl => ?_)
          refine lv_aload_n X.1 X.2.1 (dck_at da_X2_line 41 rfl) rfl (lv_at hl 1 rfl) ?_
          refine gr_getR X G Y fk_RX2_21 clC_22 rfl (dck_at da_X2_line 42 rfl) ?_
          refine lv_iload_n X.1 X.2.1 (dck_at da_X2_line 43 rfl) rfl (lv_at hl 3 rfl) ?_
          refine lv_iload X.1 X.2.1 (dck_at da_X2_line 44 rfl) (lv_at hl 7 rfl) ?_
          obtain ⟨hin, h⟩ := gI_if h
          refine gr_iast X G Y clC_26 hin (dck_at da_X2_line 45 rfl) (fun H locs Y => ?_)
          refine lv_aload_n X.1 X.2.1 (dck_at da_X2_line 46 rfl) rfl (lv_at hl 1 rfl) ?_
          refine lv_aload_n X.1 X.2.1 (dck_at da_X2_line 47 rfl) rfl (lv_at hl 2 rfl) ?_
          refine lv_iload_n X.1 X.2.1 (dck_at da_X2_line 48 rfl) rfl (lv_at hl 3 rfl) ?_
          refine lv_iconst X.1 X.2.1 (dck_at da_X2_line 49 rfl) ki_1 ?_
          refine lv_iadd X.1 X.2.1 (dck_at da_X2_line 50 rfl) ?_
          refine lv_iload_n X.1 X.2.1 (dck_at da_X2_line 51 rfl) rfl (lv_at hl 4 rfl) ?_
          refine lv_iconst X.1 X.2.1 (dck_at da_X2_line 52 rfl) ki_1 ?_
          refine lv_iload X.1 X.2.1 (dck_at da_X2_line 53 rfl) (lv_at hl 7 rfl) ?_
          refine lv_ishl X.1 X.2.1 (dck_at da_X2_line 54 rfl) ?_
          refine lv_ior X.1 X.2.1 (dck_at da_X2_line 55 rfl) ?_
          refine lv_iload X.1 X.2.1 (dck_at da_X2_line 56 rfl) (lv_at hl 0 rfl) ?_
          refine lv_lload X.1 X.2.1 (dck_at da_X2_line 57 rfl) (lv_at hl 6 rfl) ?_
          refine lv_aload_n X.1 X.2.1 (dck_at da_X2_line 58 rfl) rfl (lv_at hl 2 rfl) ?_
          refine lv_aload_n X.1 X.2.1 (dck_at da_X2_line 59 rfl) rfl (lv_at hl 1 rfl) ?_
          refine gr_getR X G Y fk_RX2_15 clC_22 rfl (dck_at da_X2_line 60 rfl) ?_
          refine lv_iload X.1 X.2.1 (dck_at da_X2_line 61 rfl) (lv_at hl 7 rfl) ?_
          obtain ⟨hin, h⟩ := gI_if h
          refine gr_iald X G Y clC_24 hin (dck_at da_X2_line 62 rfl) ?_
          refine lv_aload_n X.1 X.2.1 (dck_at da_X2_line 63 rfl) rfl (lv_at hl 1 rfl) ?_
          refine gr_getR X G Y fk_RX2_11 clC_22 rfl (dck_at da_X2_line 64 rfl) ?_
          refine lv_iload X.1 X.2.1 (dck_at da_X2_line 65 rfl) (lv_at hl 7 rfl) ?_
          obtain ⟨hin, h⟩ := gI_if h
          refine gr_iald X G Y clC_23 hin (dck_at da_X2_line 66 rfl) ?_
          refine lv_iload X.1 X.2.1 (dck_at da_X2_line 67 rfl) (lv_at hl 5 rfl) ?_
          refine lv_iload X.1 X.2.1 (dck_at da_X2_line 68 rfl) (lv_at hl 0 rfl) ?_
          obtain ⟨r1, s1, hc, h⟩ := gB2_some h
          refine gr_backl Y (gr_runV (as := [.int ((sI s0 26 (x2).toNatClampNeg x7).1 24 (x7).toNatClampNeg), .int ((sI s0 26 (x2).toNatClampNeg x7).1 23 (x7).toNatClampNeg), .int x4, .int (x4 + (s0.1 25 (x7).toNatClampNeg))]) (rest := [.long x5, .int (x4 + (s0.1 25 (x7).toNatClampNeg)), .int (x3 ||| ((1 : Int32) <<< (x7 &&& 31))), .int (x2 + (1 : Int32)), .ref (ad 1), .ref (ad 22)]) X G Y (ok_c_State_worth hc) cv_RX2_58 clC_1 (by constructor <;> simp only [grm] <;> omega) rfl hl.1 (Nat.le_of_ble_eq_true rfl) (dck_at da_X2_line 69 rfl)) (fun H locs Y => ?_)
          refine lv_ladd X.1 X.2.1 (dck_at da_X2_line 70 rfl) ?_
          obtain ⟨s2, hc, h⟩ := gB_some h
          refine gr_backv Y (gr_runV (as := [.ref (ad 1), .int (x2 + (1 : Int32)), .int (x3 ||| ((1 : Int32) <<< (x7 &&& 31))), .int (x4 + (s0.1 25 (x7).toNatClampNeg)), .long (x5 + r1)]) (rest := []) X G Y (ih (x2 + (1 : Int32)) (x3 ||| ((1 : Int32) <<< (x7 &&& 31))) (x4 + (s0.1 25 (x7).toNatClampNeg)) (x5 + r1) s1 _ hc) cv_RX2_54 clC_22 (by constructor <;> simp only [grm] <;> omega) rfl hl.1 (Nat.le_of_ble_eq_true rfl) (dck_at da_X2_line 71 rfl)) (fun H locs Y => ?_)
          exact b125 x2 x3 x4 x5 x7 s2 _ _ _ h Y (lv_sub hl [1, 2, 3, 4, 5, 6, 7] rfl)
        · have h := gI_neg h c
          refine lv_goto (tgt := 125) X.1 X.2.1 (dck_at da_X2_line 33 rfl) rfl ?_
          exact b125 x2 x3 x4 x5 x7 s0 _ _ _ h Y (lv_sub hl [0, 1, 2, 3, 4, 5, 6] rfl)
  unfold c_Jobs_line_b at h
  refine lv_iload_n X.1 X.2.1 (dck_at da_X2_line 0 rfl) rfl (lv_at hl 2 rfl) ?_
  refine lv_aload_n X.1 X.2.1 (dck_at da_X2_line 1 rfl) rfl (lv_at hl 0 rfl) ?_
  refine gr_getI X G Y fk_RX2_27 clC_22 rfl (dck_at da_X2_line 2 rfl) ?_
  refine lv_icmp_lt (tgt := 40) X.1 X.2.1 (dck_at da_X2_line 3 rfl) rfl (fun c => ?_) (fun c => ?_)
  · have h := gI_pos h c
    refine lv_iconst X.1 X.2.1 (dck_at da_X2_line 21 rfl) ki_0 ?_
    refine lv_istore (lv' := [(7, .int (0 : Int32)), (0, .ref (ad 22)), (1, .ref (ad 1)), (2, .int a2), (3, .int a3), (4, .int a4), (5, .long a5)]) X.1 X.2.1 (dck_at da_X2_line 22 rfl) hl (by decide) rfl (fun ls hl => ?_)
    exact b43 F a2 a3 a4 a5 (0 : Int32) s0 _ _ _ h Y (lv_sub hl [1, 2, 3, 4, 5, 6, 0] rfl)
  · have h := gI_neg h c
    refine lv_lload X.1 X.2.1 (dck_at da_X2_line 4 rfl) (lv_at hl 5 rfl) ?_
    refine lv_aload_n X.1 X.2.1 (dck_at da_X2_line 5 rfl) rfl (lv_at hl 0 rfl) ?_
    refine gr_getJ X G Y fk_RX2_31 clC_22 rfl (dck_at da_X2_line 6 rfl) ?_
    refine W.lcmp X.1 X.2.1 (dck_at da_X2_line 7 rfl) ?_
    refine lv_if_le (tgt := 39) X.1 X.2.1 (dck_at da_X2_line 8 rfl) rfl (fun c => ?_) (fun c => ?_)
    · have h := gI_pos h c
      exact gr_vretO X Y h hr hlk (dck_at da_X2_line 20 rfl)
    · have h := gI_neg h c
      refine lv_aload_n X.1 X.2.1 (dck_at da_X2_line 9 rfl) rfl (lv_at hl 0 rfl) ?_
      refine lv_lload X.1 X.2.1 (dck_at da_X2_line 10 rfl) (lv_at hl 5 rfl) ?_
      refine gr_putJ X G Y fp_RX2_31 clC_22 rfl (dck_at da_X2_line 11 rfl) (fun H locs Y => ?_)
      refine lv_aload_n X.1 X.2.1 (dck_at da_X2_line 12 rfl) rfl (lv_at hl 0 rfl) ?_
      refine gr_getR X G Y fk_RX2_21 clC_22 rfl (dck_at da_X2_line 13 rfl) ?_
      refine lv_iconst X.1 X.2.1 (dck_at da_X2_line 14 rfl) ki_0 ?_
      refine lv_aload_n X.1 X.2.1 (dck_at da_X2_line 15 rfl) rfl (lv_at hl 0 rfl) ?_
      refine gr_getR X G Y fk_RX2_24 clC_22 rfl (dck_at da_X2_line 16 rfl) ?_
      refine lv_iconst X.1 X.2.1 (dck_at da_X2_line 17 rfl) ki_0 ?_
      refine lv_bipush X.1 X.2.1 (dck_at da_X2_line 18 rfl) kb_6 ?_
      obtain ⟨hin, h⟩ := gI_if h
      refine gr_cpI X G Y hl.1 wm_867 ⟨wm_652, wm_651, wm_67⟩ clC_26 clC_27 hin ⟨by simp only [grm]; omega, Nat.le_trans (m := 40) (by decide +kernel) (by simp only [grm]; omega)⟩ (dck_at da_X2_line 19 rfl) (fun H locs Y => ?_)
      exact gr_vretO X Y h hr hlk (dck_at da_X2_line 20 rfl)
theorem ok_c_Jobs_line {l : Launch} {D : va_G} {cy : Nat → ClassId} {ad sa : Nat → Nat} {A : Nat → Prop} {F : Nat} {a2 : Int32} {a3 : Int32} {a4 : Int32} {a5 : Int64} {s0 : St} {σ' : St} (h : c_Jobs_line F 7 a2 a3 a4 a5 s0 = some σ') : gMv l shC D cy ad sa A yX2_line cX2_line 9 none 11 [.ref (ad 22), .ref (ad 1), .int a2, .int a3, .int a4, .long a5] s0 σ' := ok_c_Jobs_line_r 7 _ _ _ _ _ _ h
set_option maxRecDepth 100000 in
set_option maxHeartbeats 4000000 in
theorem ok_c_Jobs_choose {l : Launch} {D : va_G} {cy : Nat → ClassId} {ad sa : Nat → Nat} {A : Nat → Prop} {F : Nat}  {s0 : St} {σ' : St} (h : c_Jobs_choose F s0 = some σ') : gMv l shC D cy ad sa A yX2_choose cX2_choose 2 none 12 [.ref (ad 22), .ref (ad 1)] s0 σ' := by
  refine gM_of (by decide) (Nat.le_of_ble_eq_true rfl) ?_
  intro p e s m args below meth c ls X G Y hr hlk hl
  have hl : lv_has ls 2 [(0, .ref (ad 22)), (1, .ref (ad 1))] := hl
  unfold c_Jobs_choose at h
  refine lv_aload_n X.1 X.2.1 (dck_at da_X2_choose 0 rfl) rfl (lv_at hl 0 rfl) ?_
  refine lv_ldc2 X.1 X.2.1 X.2.2.2.1 (X.2.2.2.2 _ wm_862) (dck_at da_X2_choose 1 rfl) ?_
  refine gr_putJ X G Y fp_RX2_31 clC_22 rfl (dck_at da_X2_choose 2 rfl) (fun H locs Y => ?_)
  refine lv_aload_n X.1 X.2.1 (dck_at da_X2_choose 3 rfl) rfl (lv_at hl 0 rfl) ?_
  refine lv_aload_n X.1 X.2.1 (dck_at da_X2_choose 4 rfl) rfl (lv_at hl 1 rfl) ?_
  refine lv_iconst X.1 X.2.1 (dck_at da_X2_choose 5 rfl) ki_0 ?_
  refine lv_iconst X.1 X.2.1 (dck_at da_X2_choose 6 rfl) ki_0 ?_
  refine lv_aload_n X.1 X.2.1 (dck_at da_X2_choose 7 rfl) rfl (lv_at hl 1 rfl) ?_
  refine gr_getR X G Y fk_RX2_43 clC_1 rfl (dck_at da_X2_choose 8 rfl) ?_
  refine gr_getI X G Y fk_RX2_49 clC_9 rfl (dck_at da_X2_choose 9 rfl) ?_
  refine lv_lconst (v := 0) X.1 X.2.1 (dck_at da_X2_choose 10 rfl) rfl ?_
  obtain ⟨s1, hc, h⟩ := gB_some h
  refine gr_backv Y (gr_runV (as := [.ref (ad 1), .int (0 : Int32), .int (0 : Int32), .int ((sJ s0 22 6 (-1 : Int64)).1 9 4), .long (0 : Int64)]) (rest := []) X G Y (ok_c_Jobs_line hc) cv_RX2_54 clC_22 ⟨Nat.le_of_ble_eq_true rfl, Nat.le_of_ble_eq_true rfl⟩ rfl hl.1 (Nat.le_of_ble_eq_true rfl) (dck_at da_X2_choose 11 rfl)) (fun H locs Y => ?_)
  exact gr_vretO X Y h hr hlk (dck_at da_X2_choose 12 rfl)
set_option maxRecDepth 100000 in
set_option maxHeartbeats 4000000 in
theorem ok_c_order {l : Launch} {D : va_G} {cy : Nat → ClassId} {ad sa : Nat → Nat} {A : Nat → Prop} {F : Nat} {a1 : Int32} {s0 : St} {ρ : Int64} {σ' : St} (h : c_order F a1 s0 = some (ρ, σ')) : gMl l shC D cy ad sa A yX11_order cX11_order 2 (some .long) 13 [.ref (ad 0), .int a1] s0 ρ σ' := by
  refine gM_of (by decide) (Nat.le_of_ble_eq_true rfl) ?_
  intro p e s m args below meth c ls X G Y hr hlk hl
  have hl : lv_has ls 2 [(0, .ref (ad 0)), (1, .int a1)] := hl
  have b64 : ∀  (s0 : St) (H : Heap) (locs : List Loc) (ls : Array Slot), c_order_J64 F  s0 = some (ρ, σ') → gY shC D cy ad A s0 s H locs → lv_has ls 2 [(0, .ref (ad 0))] → W p l e (grm 13) s m args below meth c H locs 0 0 (MQ below (va_Ql (fun (q : Int64) (_ : Unit) => q = ρ) (fun _ t => va_P D vwCl (gWl shC cy ad σ') t.heap) A) args s 0 0 A) (F0 m 64 ls []) := by
    intro s0 H locs ls h Y hl
    unfold c_order_J64 at h
    refine lv_aload_n X.1 X.2.1 (dck_at da_X11_order 31 rfl) rfl (lv_at hl 0 rfl) ?_
    refine lv_bipush X.1 X.2.1 (dck_at da_X11_order 32 rfl) kb_m4 ?_
    obtain ⟨r1, s1, hc, h⟩ := gB2_some h
    refine gr_backi Y (gr_runV (as := [.int (-4 : Int32)]) (rest := []) X G Y (ok_c_refuse hc) cv_RX11_55 clC_0 ⟨Nat.le_of_ble_eq_true rfl, Nat.le_of_ble_eq_true rfl⟩ rfl hl.1 (Nat.le_of_ble_eq_true rfl) (dck_at da_X11_order 33 rfl)) (fun H locs Y => ?_)
    refine lv_i2l (v := (r1).toInt64) X.1 X.2.1 (dck_at da_X11_order 34 rfl) rfl ?_
    exact gr_lretO X Y h hr hlk (dck_at da_X11_order 35 rfl)
  unfold c_order at h
  refine lv_iload_n X.1 X.2.1 (dck_at da_X11_order 0 rfl) rfl (lv_at hl 1 rfl) ?_
  refine lv_iconst X.1 X.2.1 (dck_at da_X11_order 1 rfl) ki_m1 ?_
  refine lv_iconst X.1 X.2.1 (dck_at da_X11_order 2 rfl) ki_5 ?_
  obtain ⟨r2, s2, hc, h⟩ := gB2_some h
  refine gr_backi Y (gr_runS (as := [.int a1, .int (-1 : Int32), .int (5 : Int32)]) (rest := []) X G Y (ok_c_isIn hc) cs_RX11_68 ⟨Nat.le_of_ble_eq_true rfl, Nat.le_of_ble_eq_true rfl⟩ rfl hl.1 (Nat.le_of_ble_eq_true rfl) (dck_at da_X11_order 3 rfl)) (fun H locs Y => ?_)
  refine lv_if_ne (tgt := 16) X.1 X.2.1 (dck_at da_X11_order 4 rfl) rfl (fun c => ?_) (fun c => ?_)
  · have h := gI_neg h c
    refine lv_aload_n X.1 X.2.1 (dck_at da_X11_order 10 rfl) rfl (lv_at hl 0 rfl) ?_
    refine gr_getR X G Y fk_RX11_12 clC_0 rfl (dck_at da_X11_order 11 rfl) ?_
    refine gr_getR X G Y fk_RX11_122 clC_1 rfl (dck_at da_X11_order 12 rfl) ?_
    obtain ⟨r3, s3, hc, h⟩ := gB2_some h
    refine gr_backi Y (gr_runV (as := []) (rest := []) X G Y (ok_c_Night_isOut hc) cv_RX11_132 clC_9 ⟨Nat.le_of_ble_eq_true rfl, Nat.le_of_ble_eq_true rfl⟩ rfl hl.1 (Nat.le_of_ble_eq_true rfl) (dck_at da_X11_order 13 rfl)) (fun H locs Y => ?_)
    refine lv_if_ne (tgt := 37) X.1 X.2.1 (dck_at da_X11_order 14 rfl) rfl (fun c => ?_) (fun c => ?_)
    · have h := gI_neg h c
      refine lv_aload_n X.1 X.2.1 (dck_at da_X11_order 20 rfl) rfl (lv_at hl 0 rfl) ?_
      refine gr_getR X G Y fk_RX11_12 clC_0 rfl (dck_at da_X11_order 21 rfl) ?_
      refine gr_getR X G Y fk_RX11_182 clC_1 rfl (dck_at da_X11_order 22 rfl) ?_
      refine gr_getI X G Y fk_RX11_186 clC_22 rfl (dck_at da_X11_order 23 rfl) ?_
      refine lv_if_eq (tgt := 64) X.1 X.2.1 (dck_at da_X11_order 24 rfl) rfl (fun c => ?_) (fun c => ?_)
      · have h := gI_pos h c
        exact b64 s3 _ _ _ h Y (lv_sub hl [0] rfl)
      · have h := gI_neg h c
        refine lv_iload_n X.1 X.2.1 (dck_at da_X11_order 25 rfl) rfl (lv_at hl 1 rfl) ?_
        refine lv_aload_n X.1 X.2.1 (dck_at da_X11_order 26 rfl) rfl (lv_at hl 0 rfl) ?_
        refine gr_getR X G Y fk_RX11_12 clC_0 rfl (dck_at da_X11_order 27 rfl) ?_
        refine gr_getR X G Y fk_RX11_182 clC_1 rfl (dck_at da_X11_order 28 rfl) ?_
        refine gr_getI X G Y fk_RX11_186 clC_22 rfl (dck_at da_X11_order 29 rfl) ?_
        refine lv_icmp_lt (tgt := 72) X.1 X.2.1 (dck_at da_X11_order 30 rfl) rfl (fun c => ?_) (fun c => ?_)
        · have h := gI_pos h c
          refine lv_aload_n X.1 X.2.1 (dck_at da_X11_order 36 rfl) rfl (lv_at hl 0 rfl) ?_
          refine gr_getR X G Y fk_RX11_12 clC_0 rfl (dck_at da_X11_order 37 rfl) ?_
          refine gr_getR X G Y fk_RX11_182 clC_1 rfl (dck_at da_X11_order 38 rfl) ?_
          refine lv_aload_n X.1 X.2.1 (dck_at da_X11_order 39 rfl) rfl (lv_at hl 0 rfl) ?_
          refine gr_getR X G Y fk_RX11_12 clC_0 rfl (dck_at da_X11_order 40 rfl) ?_
          obtain ⟨s4, hc, h⟩ := gB_some h
          refine gr_backv Y (gr_runV (as := [.ref (ad 1)]) (rest := []) X G Y (ok_c_Jobs_choose hc) cv_RX11_273 clC_22 ⟨Nat.le_of_ble_eq_true rfl, Nat.le_of_ble_eq_true rfl⟩ rfl hl.1 (Nat.le_of_ble_eq_true rfl) (dck_at da_X11_order 41 rfl)) (fun H locs Y => ?_)
          refine lv_iload_n X.1 X.2.1 (dck_at da_X11_order 42 rfl) rfl (lv_at hl 1 rfl) ?_
          refine lv_if_ge (tgt := 103) X.1 X.2.1 (dck_at da_X11_order 43 rfl) rfl (fun c => ?_) (fun c => ?_)
          · have h := gI_pos h c
            refine lv_aload_n X.1 X.2.1 (dck_at da_X11_order 49 rfl) rfl (lv_at hl 0 rfl) ?_
            refine gr_getR X G Y fk_RX11_12 clC_0 rfl (dck_at da_X11_order 50 rfl) ?_
            refine gr_getR X G Y fk_RX11_182 clC_1 rfl (dck_at da_X11_order 51 rfl) ?_
            refine gr_getR X G Y fk_RX11_275 clC_22 rfl (dck_at da_X11_order 52 rfl) ?_
            refine lv_iload_n X.1 X.2.1 (dck_at da_X11_order 53 rfl) rfl (lv_at hl 1 rfl) ?_
            obtain ⟨hin, h⟩ := gI_if h
            refine gr_iald X G Y clC_27 hin (dck_at da_X11_order 54 rfl) ?_
            refine lv_i2l (v := (s4.1 27 (a1).toNatClampNeg).toInt64) X.1 X.2.1 (dck_at da_X11_order 55 rfl) rfl ?_
            exact gr_lretO X Y h hr hlk (dck_at da_X11_order 56 rfl)
          · have h := gI_neg h c
            refine lv_aload_n X.1 X.2.1 (dck_at da_X11_order 44 rfl) rfl (lv_at hl 0 rfl) ?_
            refine gr_getR X G Y fk_RX11_12 clC_0 rfl (dck_at da_X11_order 45 rfl) ?_
            refine gr_getR X G Y fk_RX11_182 clC_1 rfl (dck_at da_X11_order 46 rfl) ?_
            refine gr_getJ X G Y fk_RX11_274 clC_22 rfl (dck_at da_X11_order 47 rfl) ?_
            refine lv_goto (tgt := 116) X.1 X.2.1 (dck_at da_X11_order 48 rfl) rfl ?_
            exact gr_lretO X Y h hr hlk (dck_at da_X11_order 56 rfl)
        · have h := gI_neg h c
          exact b64 s3 _ _ _ h Y (lv_sub hl [0] rfl)
    · have h := gI_pos h c
      refine lv_aload_n X.1 X.2.1 (dck_at da_X11_order 15 rfl) rfl (lv_at hl 0 rfl) ?_
      refine lv_bipush X.1 X.2.1 (dck_at da_X11_order 16 rfl) kb_m2 ?_
      obtain ⟨r5, s5, hc, h⟩ := gB2_some h
      refine gr_backi Y (gr_runV (as := [.int (-2 : Int32)]) (rest := []) X G Y (ok_c_refuse hc) cv_RX11_55 clC_0 ⟨Nat.le_of_ble_eq_true rfl, Nat.le_of_ble_eq_true rfl⟩ rfl hl.1 (Nat.le_of_ble_eq_true rfl) (dck_at da_X11_order 17 rfl)) (fun H locs Y => ?_)
      refine lv_i2l (v := (r5).toInt64) X.1 X.2.1 (dck_at da_X11_order 18 rfl) rfl ?_
      exact gr_lretO X Y h hr hlk (dck_at da_X11_order 19 rfl)
  · have h := gI_pos h c
    refine lv_aload_n X.1 X.2.1 (dck_at da_X11_order 5 rfl) rfl (lv_at hl 0 rfl) ?_
    refine lv_iconst X.1 X.2.1 (dck_at da_X11_order 6 rfl) ki_m1 ?_
    obtain ⟨r6, s6, hc, h⟩ := gB2_some h
    refine gr_backi Y (gr_runV (as := [.int (-1 : Int32)]) (rest := []) X G Y (ok_c_refuse hc) cv_RX11_55 clC_0 ⟨Nat.le_of_ble_eq_true rfl, Nat.le_of_ble_eq_true rfl⟩ rfl hl.1 (Nat.le_of_ble_eq_true rfl) (dck_at da_X11_order 7 rfl)) (fun H locs Y => ?_)
    refine lv_i2l (v := (r6).toInt64) X.1 X.2.1 (dck_at da_X11_order 8 rfl) rfl ?_
    exact gr_lretO X Y h hr hlk (dck_at da_X11_order 9 rfl)
set_option maxRecDepth 100000 in
set_option maxHeartbeats 4000000 in
theorem ok_c_Book_isAsTold {l : Launch} {D : va_G} {cy : Nat → ClassId} {ad sa : Nat → Nat} {A : Nat → Prop} {F : Nat} {a0 : Int64} {a2 : Int64} {a4 : Int64} {s0 : St} {ρ : Int32} {σ' : St} (h : c_Book_isAsTold F a0 a2 a4 s0 = some (ρ, σ')) : gMi l shC D cy ad sa A yX0_isAsTold cX0_isAsTold 6 (some .boolean) 1 [.long a0, .long a2, .long a4] s0 ρ σ' := by
  refine gM_of (by decide) (Nat.le_of_ble_eq_true rfl) ?_
  intro p e s m args below meth c ls X G Y hr hlk hl
  have hl : lv_has ls 6 [(0, .long a0), (2, .long a2), (4, .long a4)] := hl
  have b48 : ∀  (s0 : St) (H : Heap) (locs : List Loc) (ls : Array Slot), c_Book_isAsTold_J48 F  s0 = some (ρ, σ') → gY shC D cy ad A s0 s H locs → lv_has ls 6 [] → W p l e (grm 1) s m args below meth c H locs 0 0 (MQ below (va_Qi (fun (q : Int32) (_ : Unit) => q = ρ) (fun _ t => va_P D vwCl (gWl shC cy ad σ') t.heap) A) args s 0 0 A) (F0 m 48 ls []) := by
    intro s0 H locs ls h Y hl
    unfold c_Book_isAsTold_J48 at h
    refine lv_iconst X.1 X.2.1 (dck_at da_X0_isAsTold 26 rfl) ki_0 ?_
    exact gr_iretO X Y h hr rfl hlk (dck_at da_X0_isAsTold 27 rfl)
  unfold c_Book_isAsTold at h
  refine lv_lload_n X.1 X.2.1 (dck_at da_X0_isAsTold 0 rfl) rfl (lv_at hl 0 rfl) ?_
  refine lv_lconst (v := 0) X.1 X.2.1 (dck_at da_X0_isAsTold 1 rfl) rfl ?_
  refine W.lcmp X.1 X.2.1 (dck_at da_X0_isAsTold 2 rfl) ?_
  refine lv_if_lt (tgt := 48) X.1 X.2.1 (dck_at da_X0_isAsTold 3 rfl) rfl (fun c => ?_) (fun c => ?_)
  · have h := gI_pos h c
    exact b48 s0 _ _ _ h Y (lv_sub hl [] rfl)
  · have h := gI_neg h c
    refine lv_lload_n X.1 X.2.1 (dck_at da_X0_isAsTold 4 rfl) rfl (lv_at hl 0 rfl) ?_
    refine lv_ldc2 X.1 X.2.1 X.2.2.2.1 (X.2.2.2.2 _ wm_876) (dck_at da_X0_isAsTold 5 rfl) ?_
    refine W.lcmp X.1 X.2.1 (dck_at da_X0_isAsTold 6 rfl) ?_
    refine lv_if_ge (tgt := 48) X.1 X.2.1 (dck_at da_X0_isAsTold 7 rfl) rfl (fun c => ?_) (fun c => ?_)
    · have h := gI_pos h c
      exact b48 s0 _ _ _ h Y (lv_sub hl [] rfl)
    · have h := gI_neg h c
      refine lv_lload_n X.1 X.2.1 (dck_at da_X0_isAsTold 8 rfl) rfl (lv_at hl 1 rfl) ?_
      refine lv_lconst (v := 0) X.1 X.2.1 (dck_at da_X0_isAsTold 9 rfl) rfl ?_
      refine W.lcmp X.1 X.2.1 (dck_at da_X0_isAsTold 10 rfl) ?_
      refine lv_if_lt (tgt := 48) X.1 X.2.1 (dck_at da_X0_isAsTold 11 rfl) rfl (fun c => ?_) (fun c => ?_)
      · have h := gI_pos h c
        exact b48 s0 _ _ _ h Y (lv_sub hl [] rfl)
      · have h := gI_neg h c
        refine lv_lload_n X.1 X.2.1 (dck_at da_X0_isAsTold 12 rfl) rfl (lv_at hl 1 rfl) ?_
        refine lv_ldc2 X.1 X.2.1 X.2.2.2.1 (X.2.2.2.2 _ wm_877) (dck_at da_X0_isAsTold 13 rfl) ?_
        refine W.lcmp X.1 X.2.1 (dck_at da_X0_isAsTold 14 rfl) ?_
        refine lv_if_gt (tgt := 48) X.1 X.2.1 (dck_at da_X0_isAsTold 15 rfl) rfl (fun c => ?_) (fun c => ?_)
        · have h := gI_pos h c
          exact b48 s0 _ _ _ h Y (lv_sub hl [] rfl)
        · have h := gI_neg h c
          refine lv_lload X.1 X.2.1 (dck_at da_X0_isAsTold 16 rfl) (lv_at hl 2 rfl) ?_
          refine lv_lconst (v := 0) X.1 X.2.1 (dck_at da_X0_isAsTold 17 rfl) rfl ?_
          refine W.lcmp X.1 X.2.1 (dck_at da_X0_isAsTold 18 rfl) ?_
          refine lv_if_lt (tgt := 48) X.1 X.2.1 (dck_at da_X0_isAsTold 19 rfl) rfl (fun c => ?_) (fun c => ?_)
          · have h := gI_pos h c
            exact b48 s0 _ _ _ h Y (lv_sub hl [] rfl)
          · have h := gI_neg h c
            refine lv_lload X.1 X.2.1 (dck_at da_X0_isAsTold 20 rfl) (lv_at hl 2 rfl) ?_
            refine lv_ldc2 X.1 X.2.1 X.2.2.2.1 (X.2.2.2.2 _ wm_878) (dck_at da_X0_isAsTold 21 rfl) ?_
            refine W.lcmp X.1 X.2.1 (dck_at da_X0_isAsTold 22 rfl) ?_
            refine lv_if_ge (tgt := 48) X.1 X.2.1 (dck_at da_X0_isAsTold 23 rfl) rfl (fun c => ?_) (fun c => ?_)
            · have h := gI_pos h c
              exact b48 s0 _ _ _ h Y (lv_sub hl [] rfl)
            · have h := gI_neg h c
              refine lv_iconst X.1 X.2.1 (dck_at da_X0_isAsTold 24 rfl) ki_1 ?_
              refine lv_goto (tgt := 49) X.1 X.2.1 (dck_at da_X0_isAsTold 25 rfl) rfl ?_
              exact gr_iretO X Y h hr rfl hlk (dck_at da_X0_isAsTold 27 rfl)
set_option maxRecDepth 100000 in
set_option maxHeartbeats 4000000 in
theorem ok_c_Book_add {l : Launch} {D : va_G} {cy : Nat → ClassId} {ad sa : Nat → Nat} {A : Nat → Prop} {F : Nat} {a1 : Int32} {a2 : Int32} {a3 : Int32} {s0 : St} {ρ : Int32} {σ' : St} (h : c_Book_add F a1 a2 a3 s0 = some (ρ, σ')) : gMi l shC D cy ad sa A yX0_add cX0_add 4 (some .int) 1 [.ref (ad 28), .int a1, .int a2, .int a3] s0 ρ σ' := by
  refine gM_of (by decide) (Nat.le_of_ble_eq_true rfl) ?_
  intro p e s m args below meth c ls X G Y hr hlk hl
  have hl : lv_has ls 4 [(0, .ref (ad 28)), (1, .int a1), (2, .int a2), (3, .int a3)] := hl
  unfold c_Book_add at h
  refine lv_aload_n X.1 X.2.1 (dck_at da_X0_add 0 rfl) rfl (lv_at hl 0 rfl) ?_
  refine gr_getI X G Y fk_RX0_21 clC_28 rfl (dck_at da_X0_add 1 rfl) ?_
  refine lv_bipush X.1 X.2.1 (dck_at da_X0_add 2 rfl) kb_60 ?_
  refine lv_icmp_lt (tgt := 12) X.1 X.2.1 (dck_at da_X0_add 3 rfl) rfl (fun c => ?_) (fun c => ?_)
  · have h := gI_pos h c
    refine lv_aload_n X.1 X.2.1 (dck_at da_X0_add 6 rfl) rfl (lv_at hl 0 rfl) ?_
    refine gr_getR X G Y fk_RX0_11 clC_28 rfl (dck_at da_X0_add 7 rfl) ?_
    refine lv_aload_n X.1 X.2.1 (dck_at da_X0_add 8 rfl) rfl (lv_at hl 0 rfl) ?_
    refine gr_getI X G Y fk_RX0_21 clC_28 rfl (dck_at da_X0_add 9 rfl) ?_
    refine lv_iload_n X.1 X.2.1 (dck_at da_X0_add 10 rfl) rfl (lv_at hl 1 rfl) ?_
    obtain ⟨hin, h⟩ := gI_if h
    refine gr_iast X G Y clC_29 hin (dck_at da_X0_add 11 rfl) (fun H locs Y => ?_)
    refine lv_aload_n X.1 X.2.1 (dck_at da_X0_add 12 rfl) rfl (lv_at hl 0 rfl) ?_
    refine gr_getR X G Y fk_RX0_15 clC_28 rfl (dck_at da_X0_add 13 rfl) ?_
    refine lv_aload_n X.1 X.2.1 (dck_at da_X0_add 14 rfl) rfl (lv_at hl 0 rfl) ?_
    refine gr_getI X G Y fk_RX0_21 clC_28 rfl (dck_at da_X0_add 15 rfl) ?_
    refine lv_iload_n X.1 X.2.1 (dck_at da_X0_add 16 rfl) rfl (lv_at hl 2 rfl) ?_
    obtain ⟨hin, h⟩ := gI_if h
    refine gr_iast X G Y clC_30 hin (dck_at da_X0_add 17 rfl) (fun H locs Y => ?_)
    refine lv_aload_n X.1 X.2.1 (dck_at da_X0_add 18 rfl) rfl (lv_at hl 0 rfl) ?_
    refine gr_getR X G Y fk_RX0_18 clC_28 rfl (dck_at da_X0_add 19 rfl) ?_
    refine lv_aload_n X.1 X.2.1 (dck_at da_X0_add 20 rfl) rfl (lv_at hl 0 rfl) ?_
    refine gr_getI X G Y fk_RX0_21 clC_28 rfl (dck_at da_X0_add 21 rfl) ?_
    refine lv_iload_n X.1 X.2.1 (dck_at da_X0_add 22 rfl) rfl (lv_at hl 3 rfl) ?_
    obtain ⟨hin, h⟩ := gI_if h
    refine gr_iast X G Y clC_31 hin (dck_at da_X0_add 23 rfl) (fun H locs Y => ?_)
    refine lv_aload_n X.1 X.2.1 (dck_at da_X0_add 24 rfl) rfl (lv_at hl 0 rfl) ?_
    refine lv_dup X.1 X.2.1 (dck_at da_X0_add 25 rfl) rfl ?_
    refine gr_getI X G Y fk_RX0_21 clC_28 rfl (dck_at da_X0_add 26 rfl) ?_
    refine lv_iconst X.1 X.2.1 (dck_at da_X0_add 27 rfl) ki_1 ?_
    refine lv_iadd X.1 X.2.1 (dck_at da_X0_add 28 rfl) ?_
    refine lv_dup_x1 X.1 X.2.1 (dck_at da_X0_add 29 rfl) rfl rfl ?_
    refine gr_putI X G Y fp_RX0_21 clC_28 rfl (dck_at da_X0_add 30 rfl) (fun H locs Y => ?_)
    exact gr_iretO X Y h hr rfl hlk (dck_at da_X0_add 31 rfl)
  · have h := gI_neg h c
    refine lv_bipush X.1 X.2.1 (dck_at da_X0_add 4 rfl) kb_m3 ?_
    exact gr_iretO X Y h hr rfl hlk (dck_at da_X0_add 5 rfl)
set_option maxRecDepth 100000 in
set_option maxHeartbeats 4000000 in
theorem ok_c_found {l : Launch} {D : va_G} {cy : Nat → ClassId} {ad sa : Nat → Nat} {A : Nat → Prop} {F : Nat} {a1 : Int32} {a2 : Int32} {a3 : Int32} {s0 : St} {ρ : Int32} {σ' : St} (h : c_found F a1 a2 a3 s0 = some (ρ, σ')) : gMi l shC D cy ad sa A yX11_found cX11_found 4 (some .int) 4 [.ref (ad 0), .int a1, .int a2, .int a3] s0 ρ σ' := by
  refine gM_of (by decide) (Nat.le_of_ble_eq_true rfl) ?_
  intro p e s m args below meth c ls X G Y hr hlk hl
  have hl : lv_has ls 4 [(0, .ref (ad 0)), (1, .int a1), (2, .int a2), (3, .int a3)] := hl
  unfold c_found at h
  refine lv_iload_n X.1 X.2.1 (dck_at da_X11_found 0 rfl) rfl (lv_at hl 1 rfl) ?_
  refine lv_i2l (v := (a1).toInt64) X.1 X.2.1 (dck_at da_X11_found 1 rfl) rfl ?_
  refine lv_iload_n X.1 X.2.1 (dck_at da_X11_found 2 rfl) rfl (lv_at hl 2 rfl) ?_
  refine lv_i2l (v := (a2).toInt64) X.1 X.2.1 (dck_at da_X11_found 3 rfl) rfl ?_
  refine lv_iload_n X.1 X.2.1 (dck_at da_X11_found 4 rfl) rfl (lv_at hl 3 rfl) ?_
  refine lv_i2l (v := (a3).toInt64) X.1 X.2.1 (dck_at da_X11_found 5 rfl) rfl ?_
  obtain ⟨r1, s1, hc, h⟩ := gB2_some h
  refine gr_backi Y (gr_runS (as := [.long ((a1).toInt64), .long ((a2).toInt64), .long ((a3).toInt64)]) (rest := []) X G Y (ok_c_Book_isAsTold hc) cs_RX11_276 ⟨Nat.le_of_ble_eq_true rfl, Nat.le_of_ble_eq_true rfl⟩ rfl hl.1 (Nat.le_of_ble_eq_true rfl) (dck_at da_X11_found 6 rfl)) (fun H locs Y => ?_)
  refine lv_if_ne (tgt := 18) X.1 X.2.1 (dck_at da_X11_found 7 rfl) rfl (fun c => ?_) (fun c => ?_)
  · have h := gI_neg h c
    refine lv_aload_n X.1 X.2.1 (dck_at da_X11_found 12 rfl) rfl (lv_at hl 0 rfl) ?_
    refine lv_aload_n X.1 X.2.1 (dck_at da_X11_found 13 rfl) rfl (lv_at hl 0 rfl) ?_
    refine gr_getR X G Y fk_RX11_12 clC_0 rfl (dck_at da_X11_found 14 rfl) ?_
    refine gr_getR X G Y fk_RX11_189 clC_1 rfl (dck_at da_X11_found 15 rfl) ?_
    refine lv_iload_n X.1 X.2.1 (dck_at da_X11_found 16 rfl) rfl (lv_at hl 1 rfl) ?_
    refine lv_iload_n X.1 X.2.1 (dck_at da_X11_found 17 rfl) rfl (lv_at hl 2 rfl) ?_
    refine lv_iload_n X.1 X.2.1 (dck_at da_X11_found 18 rfl) rfl (lv_at hl 3 rfl) ?_
    obtain ⟨r2, s2, hc, h⟩ := gB2_some h
    refine gr_backi Y (gr_runV (as := [.int a1, .int a2, .int a3]) (rest := [.ref (ad 0)]) X G Y (ok_c_Book_add hc) cv_RX11_280 clC_28 ⟨Nat.le_of_ble_eq_true rfl, Nat.le_of_ble_eq_true rfl⟩ rfl hl.1 (Nat.le_of_ble_eq_true rfl) (dck_at da_X11_found 19 rfl)) (fun H locs Y => ?_)
    obtain ⟨r3, s3, hc, h⟩ := gB2_some h
    refine gr_backi Y (gr_runV (as := [.int r2]) (rest := []) X G Y (ok_c_answered hc) cv_RX11_109 clC_0 ⟨Nat.le_of_ble_eq_true rfl, Nat.le_of_ble_eq_true rfl⟩ rfl hl.1 (Nat.le_of_ble_eq_true rfl) (dck_at da_X11_found 20 rfl)) (fun H locs Y => ?_)
    exact gr_iretO X Y h hr rfl hlk (dck_at da_X11_found 21 rfl)
  · have h := gI_pos h c
    refine lv_aload_n X.1 X.2.1 (dck_at da_X11_found 8 rfl) rfl (lv_at hl 0 rfl) ?_
    refine lv_iconst X.1 X.2.1 (dck_at da_X11_found 9 rfl) ki_m1 ?_
    obtain ⟨r4, s4, hc, h⟩ := gB2_some h
    refine gr_backi Y (gr_runV (as := [.int (-1 : Int32)]) (rest := []) X G Y (ok_c_refuse hc) cv_RX11_55 clC_0 ⟨Nat.le_of_ble_eq_true rfl, Nat.le_of_ble_eq_true rfl⟩ rfl hl.1 (Nat.le_of_ble_eq_true rfl) (dck_at da_X11_found 10 rfl)) (fun H locs Y => ?_)
    exact gr_iretO X Y h hr rfl hlk (dck_at da_X11_found 11 rfl)
set_option maxRecDepth 100000 in
set_option maxHeartbeats 4000000 in
theorem ok_c_Book_ofKind {l : Launch} {D : va_G} {cy : Nat → ClassId} {ad sa : Nat → Nat} {A : Nat → Prop} {F : Nat} {a1 : Int32} {s0 : St} {ρ : Int32} {σ' : St} (h : c_Book_ofKind F a1 s0 = some (ρ, σ')) : gMi l shC D cy ad sa A yX0_ofKind cX0_ofKind 4 (some .int) 1 [.ref (ad 28), .int a1] s0 ρ σ' := by
  refine gM_of (by decide) (Nat.le_of_ble_eq_true rfl) ?_
  intro p e s m args below meth c ls X G Y hr hlk hl
  have hl : lv_has ls 4 [(0, .ref (ad 28)), (1, .int a1)] := hl
  have b4 : ∀ n : Nat, ∀ (x1 : Int32) (x2 : Int32) (x3 : Int32) (s0 : St) (H : Heap) (locs : List Loc) (ls : Array Slot), c_Book_ofKind_L4 F  n x1 x2 x3 s0 = some (ρ, σ') → gY shC D cy ad A s0 s H locs → lv_has ls 4 [(0, .ref (ad 28)), (1, .int x1), (2, .int x2), (3, .int x3)] → W p l e (grm 1) s m args below meth c H locs 0 0 (MQ below (va_Qi (fun (q : Int32) (_ : Unit) => q = ρ) (fun _ t => va_P D vwCl (gWl shC cy ad σ') t.heap) A) args s 0 0 A) (F0 m 4 ls []) := by
    intro n
    induction n with
    | zero => intro x1 x2 x3 s0 H locs ls h Y hl; exact (gnone h).elim
    | succ n hk4 =>
      have e : c_Book_ofKind_L4 F  (n + 1) = c_Book_ofKind_L4b F  (c_Book_ofKind_L4 F  n) := rfl
      rw [e]; clear e
      generalize c_Book_ofKind_L4 F  n = k4 at hk4 ⊢
      have b25 : ∀ (x1 : Int32) (x2 : Int32) (x3 : Int32) (s0 : St) (H : Heap) (locs : List Loc) (ls : Array Slot), c_Book_ofKind_J25 F k4 x1 x2 x3 s0 = some (ρ, σ') → gY shC D cy ad A s0 s H locs → lv_has ls 4 [(0, .ref (ad 28)), (1, .int x1), (2, .int x2), (3, .int x3)] → W p l e (grm 1) s m args below meth c H locs 0 0 (MQ below (va_Qi (fun (q : Int32) (_ : Unit) => q = ρ) (fun _ t => va_P D vwCl (gWl shC cy ad σ') t.heap) A) args s 0 0 A) (F0 m 25 ls []) := by
        intro x1 x2 x3 s0 H locs ls h Y hl
        unfold c_Book_ofKind_J25 at h
        refine lv_iinc (v := x3 + (1 : Int32)) (lv' := [(3, .int (x3 + (1 : Int32))), (0, .ref (ad 28)), (1, .int x1), (2, .int x2)]) X.1 X.2.1 (dck_at da_X0_ofKind 15 rfl) hl (k := 3) rfl (congrArg (HAdd.hAdd _) ki_1) (by decide) rfl (fun ls hl => ?_)
        refine lv_goto (tgt := 4) X.1 X.2.1 (dck_at da_X0_ofKind 16 rfl) rfl ?_
        exact hk4 x1 x2 (x3 + (1 : Int32)) s0 _ _ _ h Y (lv_sub hl [1, 2, 3, 0] rfl)
      intro x1 x2 x3 s0 H locs ls h Y hl
      unfold c_Book_ofKind_L4b at h
      refine lv_iload_n X.1 X.2.1 (dck_at da_X0_ofKind 4 rfl) rfl (lv_at hl 3 rfl) ?_
      refine lv_aload_n X.1 X.2.1 (dck_at da_X0_ofKind 5 rfl) rfl (lv_at hl 0 rfl) ?_
      refine gr_getI X G Y fk_RX0_21 clC_28 rfl (dck_at da_X0_ofKind 6 rfl) ?_
      refine lv_icmp_ge (tgt := 31) X.1 X.2.1 (dck_at da_X0_ofKind 7 rfl) rfl (fun c => ?_) (fun c => ?_)
      · have h := gI_pos h c
        refine lv_iload_n X.1 X.2.1 (dck_at da_X0_ofKind 17 rfl) rfl (lv_at hl 2 rfl) ?_
        exact gr_iretO X Y h hr rfl hlk (dck_at da_X0_ofKind 18 rfl)
      · have h := gI_neg h c
        refine lv_aload_n X.1 X.2.1 (dck_at da_X0_ofKind 8 rfl) rfl (lv_at hl 0 rfl) ?_
        refine gr_getR X G Y fk_RX0_18 clC_28 rfl (dck_at da_X0_ofKind 9 rfl) ?_
        refine lv_iload_n X.1 X.2.1 (dck_at da_X0_ofKind 10 rfl) rfl (lv_at hl 3 rfl) ?_
        obtain ⟨hin, h⟩ := gI_if h
        refine gr_iald X G Y clC_31 hin (dck_at da_X0_ofKind 11 rfl) ?_
        refine lv_iload_n X.1 X.2.1 (dck_at da_X0_ofKind 12 rfl) rfl (lv_at hl 1 rfl) ?_
        refine lv_icmp_ne (tgt := 25) X.1 X.2.1 (dck_at da_X0_ofKind 13 rfl) rfl (fun c => ?_) (fun c => ?_)
        · have h := gI_neg h c
          exact b25 x1 x2 x3 s0 _ _ _ h Y (lv_sub hl [0, 1, 2, 3] rfl)
        · have h := gI_pos h c
          refine lv_iinc (v := x2 + (1 : Int32)) (lv' := [(2, .int (x2 + (1 : Int32))), (0, .ref (ad 28)), (1, .int x1), (3, .int x3)]) X.1 X.2.1 (dck_at da_X0_ofKind 14 rfl) hl (k := 2) rfl (congrArg (HAdd.hAdd _) ki_1) (by decide) rfl (fun ls hl => ?_)
          exact b25 x1 (x2 + (1 : Int32)) x3 s0 _ _ _ h Y (lv_sub hl [1, 2, 0, 3] rfl)
  unfold c_Book_ofKind at h
  refine lv_iconst X.1 X.2.1 (dck_at da_X0_ofKind 0 rfl) ki_0 ?_
  refine lv_istore_n (lv' := [(2, .int (0 : Int32)), (0, .ref (ad 28)), (1, .int a1)]) X.1 X.2.1 (dck_at da_X0_ofKind 1 rfl) rfl hl (by decide) rfl (fun ls hl => ?_)
  refine lv_iconst X.1 X.2.1 (dck_at da_X0_ofKind 2 rfl) ki_0 ?_
  refine lv_istore_n (lv' := [(3, .int (0 : Int32)), (2, .int (0 : Int32)), (0, .ref (ad 28)), (1, .int a1)]) X.1 X.2.1 (dck_at da_X0_ofKind 3 rfl) rfl hl (by decide) rfl (fun ls hl => ?_)
  exact b4 F a1 (0 : Int32) (0 : Int32) s0 _ _ _ h Y (lv_sub hl [2, 3, 1, 0] rfl)
set_option maxRecDepth 100000 in
set_option maxHeartbeats 4000000 in
theorem ok_c_share {l : Launch} {D : va_G} {cy : Nat → ClassId} {ad sa : Nat → Nat} {A : Nat → Prop} {F : Nat} {a1 : Int32} {a2 : Int32} {s0 : St} {ρ : Int32} {σ' : St} (h : c_share F a1 a2 s0 = some (ρ, σ')) : gMi l shC D cy ad sa A yX11_share cX11_share 3 (some .int) 3 [.ref (ad 0), .int a1, .int a2] s0 ρ σ' := by
  refine gM_of (by decide) (Nat.le_of_ble_eq_true rfl) ?_
  intro p e s m args below meth c ls X G Y hr hlk hl
  have hl : lv_has ls 3 [(0, .ref (ad 0)), (1, .int a1), (2, .int a2)] := hl
  have b14 : ∀  (s0 : St) (H : Heap) (locs : List Loc) (ls : Array Slot), c_share_J14 F  s0 = some (ρ, σ') → gY shC D cy ad A s0 s H locs → lv_has ls 3 [(0, .ref (ad 0))] → W p l e (grm 3) s m args below meth c H locs 0 0 (MQ below (va_Qi (fun (q : Int32) (_ : Unit) => q = ρ) (fun _ t => va_P D vwCl (gWl shC cy ad σ') t.heap) A) args s 0 0 A) (F0 m 14 ls []) := by
    intro s0 H locs ls h Y hl
    unfold c_share_J14 at h
    refine lv_aload_n X.1 X.2.1 (dck_at da_X11_share 6 rfl) rfl (lv_at hl 0 rfl) ?_
    refine lv_iconst X.1 X.2.1 (dck_at da_X11_share 7 rfl) ki_m1 ?_
    obtain ⟨r1, s1, hc, h⟩ := gB2_some h
    refine gr_backi Y (gr_runV (as := [.int (-1 : Int32)]) (rest := []) X G Y (ok_c_refuse hc) cv_RX11_55 clC_0 ⟨Nat.le_of_ble_eq_true rfl, Nat.le_of_ble_eq_true rfl⟩ rfl hl.1 (Nat.le_of_ble_eq_true rfl) (dck_at da_X11_share 8 rfl)) (fun H locs Y => ?_)
    exact gr_iretO X Y h hr rfl hlk (dck_at da_X11_share 9 rfl)
  unfold c_share at h
  refine lv_iload_n X.1 X.2.1 (dck_at da_X11_share 0 rfl) rfl (lv_at hl 1 rfl) ?_
  obtain ⟨r2, s2, hc, h⟩ := gB2_some h
  refine gr_backi Y (gr_runS (as := [.int a1]) (rest := []) X G Y (ok_c_isKind hc) cs_RX11_52 ⟨Nat.le_of_ble_eq_true rfl, Nat.le_of_ble_eq_true rfl⟩ rfl hl.1 (Nat.le_of_ble_eq_true rfl) (dck_at da_X11_share 1 rfl)) (fun H locs Y => ?_)
  refine lv_if_eq (tgt := 14) X.1 X.2.1 (dck_at da_X11_share 2 rfl) rfl (fun c => ?_) (fun c => ?_)
  · have h := gI_pos h c
    exact b14 s2 _ _ _ h Y (lv_sub hl [0] rfl)
  · have h := gI_neg h c
    refine lv_iload_n X.1 X.2.1 (dck_at da_X11_share 3 rfl) rfl (lv_at hl 2 rfl) ?_
    obtain ⟨r3, s3, hc, h⟩ := gB2_some h
    refine gr_backi Y (gr_runS (as := [.int a2]) (rest := []) X G Y (ok_c_isPart hc) cs_RX11_155 ⟨Nat.le_of_ble_eq_true rfl, Nat.le_of_ble_eq_true rfl⟩ rfl hl.1 (Nat.le_of_ble_eq_true rfl) (dck_at da_X11_share 4 rfl)) (fun H locs Y => ?_)
    refine lv_if_ne (tgt := 20) X.1 X.2.1 (dck_at da_X11_share 5 rfl) rfl (fun c => ?_) (fun c => ?_)
    · have h := gI_neg h c
      refine lv_aload_n X.1 X.2.1 (dck_at da_X11_share 10 rfl) rfl (lv_at hl 0 rfl) ?_
      refine gr_getR X G Y fk_RX11_12 clC_0 rfl (dck_at da_X11_share 11 rfl) ?_
      refine gr_getR X G Y fk_RX11_189 clC_1 rfl (dck_at da_X11_share 12 rfl) ?_
      refine lv_iload_n X.1 X.2.1 (dck_at da_X11_share 13 rfl) rfl (lv_at hl 1 rfl) ?_
      obtain ⟨r4, s4, hc, h⟩ := gB2_some h
      refine gr_backi Y (gr_runV (as := [.int a1]) (rest := []) X G Y (ok_c_Book_ofKind hc) cv_RX11_281 clC_28 ⟨Nat.le_of_ble_eq_true rfl, Nat.le_of_ble_eq_true rfl⟩ rfl hl.1 (Nat.le_of_ble_eq_true rfl) (dck_at da_X11_share 14 rfl)) (fun H locs Y => ?_)
      refine lv_iconst X.1 X.2.1 (dck_at da_X11_share 15 rfl) ki_1 ?_
      refine lv_iadd X.1 X.2.1 (dck_at da_X11_share 16 rfl) ?_
      refine lv_i2l (v := (r4 + (1 : Int32)).toInt64) X.1 X.2.1 (dck_at da_X11_share 17 rfl) rfl ?_
      refine lv_aload_n X.1 X.2.1 (dck_at da_X11_share 18 rfl) rfl (lv_at hl 0 rfl) ?_
      refine gr_getR X G Y fk_RX11_12 clC_0 rfl (dck_at da_X11_share 19 rfl) ?_
      refine gr_getR X G Y fk_RX11_189 clC_1 rfl (dck_at da_X11_share 20 rfl) ?_
      refine gr_getI X G Y fk_RX11_193 clC_28 rfl (dck_at da_X11_share 21 rfl) ?_
      refine lv_bipush X.1 X.2.1 (dck_at da_X11_share 22 rfl) kb_8 ?_
      refine lv_iadd X.1 X.2.1 (dck_at da_X11_share 23 rfl) ?_
      refine lv_i2l (v := ((s4.1 28 3) + (8 : Int32)).toInt64) X.1 X.2.1 (dck_at da_X11_share 24 rfl) rfl ?_
      refine lv_iload_n X.1 X.2.1 (dck_at da_X11_share 25 rfl) rfl (lv_at hl 2 rfl) ?_
      obtain ⟨r5, s5, hc, h⟩ := gB2_some h
      refine gr_backl Y (gr_runS (as := [.long ((r4 + (1 : Int32)).toInt64), .long (((s4.1 28 3) + (8 : Int32)).toInt64), .int a2]) (rest := []) X G Y (ok_c_lowest hc) cs_RX11_162 ⟨Nat.le_of_ble_eq_true rfl, Nat.le_of_ble_eq_true rfl⟩ rfl hl.1 (Nat.le_of_ble_eq_true rfl) (dck_at da_X11_share 26 rfl)) (fun H locs Y => ?_)
      refine lv_l2i (v := (r5).toInt32) X.1 X.2.1 (dck_at da_X11_share 27 rfl) rfl ?_
      exact gr_iretO X Y h hr rfl hlk (dck_at da_X11_share 28 rfl)
    · have h := gI_pos h c
      exact b14 s3 _ _ _ h Y (lv_sub hl [0] rfl)
set_option maxRecDepth 100000 in
set_option maxHeartbeats 4000000 in
theorem ok_c_Book_within {l : Launch} {D : va_G} {cy : Nat → ClassId} {ad sa : Nat → Nat} {A : Nat → Prop} {F : Nat} {a1 : Int32} {a2 : Int32} {s0 : St} {ρ : Int32} {σ' : St} (h : c_Book_within F a1 a2 s0 = some (ρ, σ')) : gMi l shC D cy ad sa A yX0_within cX0_within 5 (some .int) 1 [.ref (ad 28), .int a1, .int a2] s0 ρ σ' := by
  refine gM_of (by decide) (Nat.le_of_ble_eq_true rfl) ?_
  intro p e s m args below meth c ls X G Y hr hlk hl
  have hl : lv_has ls 5 [(0, .ref (ad 28)), (1, .int a1), (2, .int a2)] := hl
  have b5 : ∀ n : Nat, ∀ (x1 : Int32) (x2 : Int32) (x3 : Int32) (x4 : Int32) (s0 : St) (H : Heap) (locs : List Loc) (ls : Array Slot), c_Book_within_L5 F  n x1 x2 x3 x4 s0 = some (ρ, σ') → gY shC D cy ad A s0 s H locs → lv_has ls 5 [(0, .ref (ad 28)), (1, .int x1), (2, .int x2), (3, .int x3), (4, .int x4)] → W p l e (grm 1) s m args below meth c H locs 0 0 (MQ below (va_Qi (fun (q : Int32) (_ : Unit) => q = ρ) (fun _ t => va_P D vwCl (gWl shC cy ad σ') t.heap) A) args s 0 0 A) (F0 m 5 ls []) := by
    intro n
    induction n with
    | zero => intro x1 x2 x3 x4 s0 H locs ls h Y hl; exact (gnone h).elim
    | succ n hk5 =>
      have e : c_Book_within_L5 F  (n + 1) = c_Book_within_L5b F  (c_Book_within_L5 F  n) := rfl
      rw [e]; clear e
      generalize c_Book_within_L5 F  n = k5 at hk5 ⊢
      have b39 : ∀ (x1 : Int32) (x2 : Int32) (x3 : Int32) (x4 : Int32) (s0 : St) (H : Heap) (locs : List Loc) (ls : Array Slot), c_Book_within_J39 F k5 x1 x2 x3 x4 s0 = some (ρ, σ') → gY shC D cy ad A s0 s H locs → lv_has ls 5 [(0, .ref (ad 28)), (1, .int x1), (2, .int x2), (3, .int x3), (4, .int x4)] → W p l e (grm 1) s m args below meth c H locs 0 0 (MQ below (va_Qi (fun (q : Int32) (_ : Unit) => q = ρ) (fun _ t => va_P D vwCl (gWl shC cy ad σ') t.heap) A) args s 0 0 A) (F0 m 39 ls []) := by
        intro x1 x2 x3 x4 s0 H locs ls h Y hl
        unfold c_Book_within_J39 at h
        refine lv_iinc (v := x4 + (1 : Int32)) (lv' := [(4, .int (x4 + (1 : Int32))), (0, .ref (ad 28)), (1, .int x1), (2, .int x2), (3, .int x3)]) X.1 X.2.1 (dck_at da_X0_within 21 rfl) hl (k := 4) rfl (congrArg (HAdd.hAdd _) ki_1) (by decide) rfl (fun ls hl => ?_)
        refine lv_goto (tgt := 5) X.1 X.2.1 (dck_at da_X0_within 22 rfl) rfl ?_
        exact hk5 x1 x2 x3 (x4 + (1 : Int32)) s0 _ _ _ h Y (lv_sub hl [1, 2, 3, 4, 0] rfl)
      intro x1 x2 x3 x4 s0 H locs ls h Y hl
      unfold c_Book_within_L5b at h
      refine lv_iload X.1 X.2.1 (dck_at da_X0_within 4 rfl) (lv_at hl 4 rfl) ?_
      refine lv_aload_n X.1 X.2.1 (dck_at da_X0_within 5 rfl) rfl (lv_at hl 0 rfl) ?_
      refine gr_getI X G Y fk_RX0_21 clC_28 rfl (dck_at da_X0_within 6 rfl) ?_
      refine lv_icmp_ge (tgt := 45) X.1 X.2.1 (dck_at da_X0_within 7 rfl) rfl (fun c => ?_) (fun c => ?_)
      · have h := gI_pos h c
        refine lv_iload_n X.1 X.2.1 (dck_at da_X0_within 23 rfl) rfl (lv_at hl 3 rfl) ?_
        exact gr_iretO X Y h hr rfl hlk (dck_at da_X0_within 24 rfl)
      · have h := gI_neg h c
        refine lv_aload_n X.1 X.2.1 (dck_at da_X0_within 8 rfl) rfl (lv_at hl 0 rfl) ?_
        refine gr_getR X G Y fk_RX0_11 clC_28 rfl (dck_at da_X0_within 9 rfl) ?_
        refine lv_iload X.1 X.2.1 (dck_at da_X0_within 10 rfl) (lv_at hl 4 rfl) ?_
        obtain ⟨hin, h⟩ := gI_if h
        refine gr_iald X G Y clC_29 hin (dck_at da_X0_within 11 rfl) ?_
        refine lv_iload_n X.1 X.2.1 (dck_at da_X0_within 12 rfl) rfl (lv_at hl 1 rfl) ?_
        refine lv_icmp_ne (tgt := 39) X.1 X.2.1 (dck_at da_X0_within 13 rfl) rfl (fun c => ?_) (fun c => ?_)
        · have h := gI_neg h c
          exact b39 x1 x2 x3 x4 s0 _ _ _ h Y (lv_sub hl [0, 1, 2, 3, 4] rfl)
        · have h := gI_pos h c
          refine lv_aload_n X.1 X.2.1 (dck_at da_X0_within 14 rfl) rfl (lv_at hl 0 rfl) ?_
          refine gr_getR X G Y fk_RX0_15 clC_28 rfl (dck_at da_X0_within 15 rfl) ?_
          refine lv_iload X.1 X.2.1 (dck_at da_X0_within 16 rfl) (lv_at hl 4 rfl) ?_
          obtain ⟨hin, h⟩ := gI_if h
          refine gr_iald X G Y clC_30 hin (dck_at da_X0_within 17 rfl) ?_
          refine lv_iload_n X.1 X.2.1 (dck_at da_X0_within 18 rfl) rfl (lv_at hl 2 rfl) ?_
          refine lv_icmp_gt (tgt := 39) X.1 X.2.1 (dck_at da_X0_within 19 rfl) rfl (fun c => ?_) (fun c => ?_)
          · have h := gI_pos h c
            exact b39 x1 x2 x3 x4 s0 _ _ _ h Y (lv_sub hl [0, 1, 2, 3, 4] rfl)
          · have h := gI_neg h c
            refine lv_iinc (v := x3 + (1 : Int32)) (lv' := [(3, .int (x3 + (1 : Int32))), (0, .ref (ad 28)), (1, .int x1), (2, .int x2), (4, .int x4)]) X.1 X.2.1 (dck_at da_X0_within 20 rfl) hl (k := 3) rfl (congrArg (HAdd.hAdd _) ki_1) (by decide) rfl (fun ls hl => ?_)
            exact b39 x1 x2 (x3 + (1 : Int32)) x4 s0 _ _ _ h Y (lv_sub hl [1, 2, 3, 0, 4] rfl)
  unfold c_Book_within at h
  refine lv_iconst X.1 X.2.1 (dck_at da_X0_within 0 rfl) ki_0 ?_
  refine lv_istore_n (lv' := [(3, .int (0 : Int32)), (0, .ref (ad 28)), (1, .int a1), (2, .int a2)]) X.1 X.2.1 (dck_at da_X0_within 1 rfl) rfl hl (by decide) rfl (fun ls hl => ?_)
  refine lv_iconst X.1 X.2.1 (dck_at da_X0_within 2 rfl) ki_0 ?_
  refine lv_istore (lv' := [(4, .int (0 : Int32)), (3, .int (0 : Int32)), (0, .ref (ad 28)), (1, .int a1), (2, .int a2)]) X.1 X.2.1 (dck_at da_X0_within 3 rfl) hl (by decide) rfl (fun ls hl => ?_)
  exact b5 F a1 a2 (0 : Int32) (0 : Int32) s0 _ _ _ h Y (lv_sub hl [2, 3, 4, 1, 0] rfl)
set_option maxRecDepth 100000 in
set_option maxHeartbeats 4000000 in
theorem ok_c_Book_quarters {l : Launch} {D : va_G} {cy : Nat → ClassId} {ad sa : Nat → Nat} {A : Nat → Prop} {F : Nat} {a0 : Int32} {a1 : Int32} {s0 : St} {ρ : Int32} {σ' : St} (h : c_Book_quarters F a0 a1 s0 = some (ρ, σ')) : gMi l shC D cy ad sa A yX0_quarters cX0_quarters 2 (some .int) 1 [.int a0, .int a1] s0 ρ σ' := by
  refine gM_of (by decide) (Nat.le_of_ble_eq_true rfl) ?_
  intro p e s m args below meth c ls X G Y hr hlk hl
  have hl : lv_has ls 2 [(0, .int a0), (1, .int a1)] := hl
  unfold c_Book_quarters at h
  refine lv_iload_n X.1 X.2.1 (dck_at da_X0_quarters 0 rfl) rfl (lv_at hl 0 rfl) ?_
  refine lv_iload_n X.1 X.2.1 (dck_at da_X0_quarters 1 rfl) rfl (lv_at hl 1 rfl) ?_
  refine lv_imul X.1 X.2.1 (dck_at da_X0_quarters 2 rfl) ?_
  refine lv_iconst X.1 X.2.1 (dck_at da_X0_quarters 3 rfl) ki_3 ?_
  refine lv_iadd X.1 X.2.1 (dck_at da_X0_quarters 4 rfl) ?_
  refine lv_iconst X.1 X.2.1 (dck_at da_X0_quarters 5 rfl) ki_4 ?_
  refine lv_idiv X.1 X.2.1 (dck_at da_X0_quarters 6 rfl) (by decide) ?_
  exact gr_iretO X Y h hr rfl hlk (dck_at da_X0_quarters 7 rfl)
set_option maxRecDepth 100000 in
set_option maxHeartbeats 4000000 in
theorem ok_c_Book_reach {l : Launch} {D : va_G} {cy : Nat → ClassId} {ad sa : Nat → Nat} {A : Nat → Prop} {F : Nat} {a1 : Int32} {a2 : Int32} {s0 : St} {ρ : Int32} {σ' : St} (h : c_Book_reach F a1 a2 s0 = some (ρ, σ')) : gMi l shC D cy ad sa A yX0_reach cX0_reach 5 (some .int) 2 [.ref (ad 28), .int a1, .int a2] s0 ρ σ' := by
  refine gM_of (by decide) (Nat.le_of_ble_eq_true rfl) ?_
  intro p e s m args below meth c ls X G Y hr hlk hl
  have hl : lv_has ls 5 [(0, .ref (ad 28)), (1, .int a1), (2, .int a2)] := hl
  have b15 : ∀ n : Nat, ∀ (x1 : Int32) (x3 : Int32) (x4 : Int32) (s0 : St) (H : Heap) (locs : List Loc) (ls : Array Slot), c_Book_reach_L15 F  n x1 x3 x4 s0 = some (ρ, σ') → gY shC D cy ad A s0 s H locs → lv_has ls 5 [(0, .ref (ad 28)), (1, .int x1), (3, .int x3), (4, .int x4)] → W p l e (grm 2) s m args below meth c H locs 0 0 (MQ below (va_Qi (fun (q : Int32) (_ : Unit) => q = ρ) (fun _ t => va_P D vwCl (gWl shC cy ad σ') t.heap) A) args s 0 0 A) (F0 m 15 ls []) := by
    intro n
    induction n with
    | zero => intro x1 x3 x4 s0 H locs ls h Y hl; exact (gnone h).elim
    | succ n hk15 =>
      have e : c_Book_reach_L15 F  (n + 1) = c_Book_reach_L15b F  (c_Book_reach_L15 F  n) := rfl
      rw [e]; clear e
      generalize c_Book_reach_L15 F  n = k15 at hk15 ⊢
      intro x1 x3 x4 s0 H locs ls h Y hl
      unfold c_Book_reach_L15b at h
      refine lv_iload X.1 X.2.1 (dck_at da_X0_reach 9 rfl) (lv_at hl 3 rfl) ?_
      refine lv_bipush X.1 X.2.1 (dck_at da_X0_reach 10 rfl) kb_99 ?_
      refine lv_icmp_gt (tgt := 46) X.1 X.2.1 (dck_at da_X0_reach 11 rfl) rfl (fun c => ?_) (fun c => ?_)
      · have h := gI_pos h c
        refine lv_iconst X.1 X.2.1 (dck_at da_X0_reach 24 rfl) ki_m1 ?_
        exact gr_iretO X Y h hr rfl hlk (dck_at da_X0_reach 25 rfl)
      · have h := gI_neg h c
        refine lv_iload_n X.1 X.2.1 (dck_at da_X0_reach 12 rfl) rfl (lv_at hl 2 rfl) ?_
        refine lv_if_le (tgt := 46) X.1 X.2.1 (dck_at da_X0_reach 13 rfl) rfl (fun c => ?_) (fun c => ?_)
        · have h := gI_pos h c
          refine lv_iconst X.1 X.2.1 (dck_at da_X0_reach 24 rfl) ki_m1 ?_
          exact gr_iretO X Y h hr rfl hlk (dck_at da_X0_reach 25 rfl)
        · have h := gI_neg h c
          refine lv_aload_n X.1 X.2.1 (dck_at da_X0_reach 14 rfl) rfl (lv_at hl 0 rfl) ?_
          refine lv_iload_n X.1 X.2.1 (dck_at da_X0_reach 15 rfl) rfl (lv_at hl 1 rfl) ?_
          refine lv_iload X.1 X.2.1 (dck_at da_X0_reach 16 rfl) (lv_at hl 3 rfl) ?_
          obtain ⟨r1, s1, hc, h⟩ := gB2_some h
          refine gr_backi Y (gr_runV (as := [.int x1, .int x4]) (rest := []) X G Y (ok_c_Book_within hc) cv_RX0_37 clC_28 ⟨Nat.le_of_ble_eq_true rfl, Nat.le_of_ble_eq_true rfl⟩ rfl hl.1 (Nat.le_of_ble_eq_true rfl) (dck_at da_X0_reach 17 rfl)) (fun H locs Y => ?_)
          refine lv_iload_n X.1 X.2.1 (dck_at da_X0_reach 18 rfl) rfl (lv_at hl 2 rfl) ?_
          refine lv_icmp_lt (tgt := 40) X.1 X.2.1 (dck_at da_X0_reach 19 rfl) rfl (fun c => ?_) (fun c => ?_)
          · have h := gI_pos h c
            refine lv_iinc (v := x4 + (1 : Int32)) (lv' := [(4, .int (x4 + (1 : Int32))), (0, .ref (ad 28)), (1, .int x1), (3, .int x3)]) X.1 X.2.1 (dck_at da_X0_reach 22 rfl) hl (k := 3) rfl (congrArg (HAdd.hAdd _) ki_1) (by decide) rfl (fun ls hl => ?_)
            refine lv_goto (tgt := 15) X.1 X.2.1 (dck_at da_X0_reach 23 rfl) rfl ?_
            exact hk15 x1 x3 (x4 + (1 : Int32)) s1 _ _ _ h Y (lv_sub hl [1, 2, 3, 0] rfl)
          · have h := gI_neg h c
            refine lv_iload X.1 X.2.1 (dck_at da_X0_reach 20 rfl) (lv_at hl 3 rfl) ?_
            exact gr_iretO X Y h hr rfl hlk (dck_at da_X0_reach 21 rfl)
  unfold c_Book_reach at h
  refine lv_iload_n X.1 X.2.1 (dck_at da_X0_reach 0 rfl) rfl (lv_at hl 2 rfl) ?_
  refine lv_aload_n X.1 X.2.1 (dck_at da_X0_reach 1 rfl) rfl (lv_at hl 0 rfl) ?_
  refine lv_iload_n X.1 X.2.1 (dck_at da_X0_reach 2 rfl) rfl (lv_at hl 1 rfl) ?_
  refine lv_bipush X.1 X.2.1 (dck_at da_X0_reach 3 rfl) kb_99 ?_
  obtain ⟨r2, s2, hc, h⟩ := gB2_some h
  refine gr_backi Y (gr_runV (as := [.int a1, .int (99 : Int32)]) (rest := [.int a2]) X G Y (ok_c_Book_within hc) cv_RX0_37 clC_28 ⟨Nat.le_of_ble_eq_true rfl, Nat.le_of_ble_eq_true rfl⟩ rfl hl.1 (Nat.le_of_ble_eq_true rfl) (dck_at da_X0_reach 4 rfl)) (fun H locs Y => ?_)
  obtain ⟨r3, s3, hc, h⟩ := gB2_some h
  refine gr_backi Y (gr_runS (as := [.int a2, .int r2]) (rest := []) X G Y (ok_c_Book_quarters hc) cs_RX0_41 ⟨Nat.le_of_ble_eq_true rfl, Nat.le_of_ble_eq_true rfl⟩ rfl hl.1 (Nat.le_of_ble_eq_true rfl) (dck_at da_X0_reach 5 rfl)) (fun H locs Y => ?_)
  refine lv_istore_n (lv' := [(3, .int r3), (0, .ref (ad 28)), (1, .int a1), (2, .int a2)]) X.1 X.2.1 (dck_at da_X0_reach 6 rfl) rfl hl (by decide) rfl (fun ls hl => ?_)
  refine lv_iconst X.1 X.2.1 (dck_at da_X0_reach 7 rfl) ki_0 ?_
  refine lv_istore (lv' := [(4, .int (0 : Int32)), (3, .int r3), (0, .ref (ad 28)), (1, .int a1), (2, .int a2)]) X.1 X.2.1 (dck_at da_X0_reach 8 rfl) hl (by decide) rfl (fun ls hl => ?_)
  exact b15 F a1 r3 (0 : Int32) s3 _ _ _ h Y (lv_sub hl [2, 3, 1, 0] rfl)
set_option maxRecDepth 100000 in
set_option maxHeartbeats 4000000 in
theorem ok_c_span {l : Launch} {D : va_G} {cy : Nat → ClassId} {ad sa : Nat → Nat} {A : Nat → Prop} {F : Nat} {a1 : Int32} {a2 : Int32} {s0 : St} {ρ : Int32} {σ' : St} (h : c_span F a1 a2 s0 = some (ρ, σ')) : gMi l shC D cy ad sa A yX11_span cX11_span 4 (some .int) 3 [.ref (ad 0), .int a1, .int a2] s0 ρ σ' := by
  refine gM_of (by decide) (Nat.le_of_ble_eq_true rfl) ?_
  intro p e s m args below meth c ls X G Y hr hlk hl
  have hl : lv_has ls 4 [(0, .ref (ad 0)), (1, .int a1), (2, .int a2)] := hl
  have b18 : ∀  (s0 : St) (H : Heap) (locs : List Loc) (ls : Array Slot), c_span_J18 F  s0 = some (ρ, σ') → gY shC D cy ad A s0 s H locs → lv_has ls 4 [(0, .ref (ad 0))] → W p l e (grm 3) s m args below meth c H locs 0 0 (MQ below (va_Qi (fun (q : Int32) (_ : Unit) => q = ρ) (fun _ t => va_P D vwCl (gWl shC cy ad σ') t.heap) A) args s 0 0 A) (F0 m 18 ls []) := by
    intro s0 H locs ls h Y hl
    unfold c_span_J18 at h
    refine lv_aload_n X.1 X.2.1 (dck_at da_X11_span 10 rfl) rfl (lv_at hl 0 rfl) ?_
    refine lv_iconst X.1 X.2.1 (dck_at da_X11_span 11 rfl) ki_m1 ?_
    obtain ⟨r1, s1, hc, h⟩ := gB2_some h
    refine gr_backi Y (gr_runV (as := [.int (-1 : Int32)]) (rest := []) X G Y (ok_c_refuse hc) cv_RX11_55 clC_0 ⟨Nat.le_of_ble_eq_true rfl, Nat.le_of_ble_eq_true rfl⟩ rfl hl.1 (Nat.le_of_ble_eq_true rfl) (dck_at da_X11_span 12 rfl)) (fun H locs Y => ?_)
    exact gr_iretO X Y h hr rfl hlk (dck_at da_X11_span 13 rfl)
  unfold c_span at h
  refine lv_iload_n X.1 X.2.1 (dck_at da_X11_span 0 rfl) rfl (lv_at hl 1 rfl) ?_
  refine lv_iconst X.1 X.2.1 (dck_at da_X11_span 1 rfl) ki_0 ?_
  refine lv_iconst X.1 X.2.1 (dck_at da_X11_span 2 rfl) ki_3 ?_
  obtain ⟨r2, s2, hc, h⟩ := gB2_some h
  refine gr_backi Y (gr_runS (as := [.int a1, .int (0 : Int32), .int (3 : Int32)]) (rest := []) X G Y (ok_c_isIn hc) cs_RX11_68 ⟨Nat.le_of_ble_eq_true rfl, Nat.le_of_ble_eq_true rfl⟩ rfl hl.1 (Nat.le_of_ble_eq_true rfl) (dck_at da_X11_span 3 rfl)) (fun H locs Y => ?_)
  refine lv_if_eq (tgt := 18) X.1 X.2.1 (dck_at da_X11_span 4 rfl) rfl (fun c => ?_) (fun c => ?_)
  · have h := gI_pos h c
    exact b18 s2 _ _ _ h Y (lv_sub hl [0] rfl)
  · have h := gI_neg h c
    refine lv_iload_n X.1 X.2.1 (dck_at da_X11_span 5 rfl) rfl (lv_at hl 2 rfl) ?_
    refine lv_iconst X.1 X.2.1 (dck_at da_X11_span 6 rfl) ki_1 ?_
    refine lv_iconst X.1 X.2.1 (dck_at da_X11_span 7 rfl) ki_4 ?_
    obtain ⟨r3, s3, hc, h⟩ := gB2_some h
    refine gr_backi Y (gr_runS (as := [.int a2, .int (1 : Int32), .int (4 : Int32)]) (rest := []) X G Y (ok_c_isIn hc) cs_RX11_68 ⟨Nat.le_of_ble_eq_true rfl, Nat.le_of_ble_eq_true rfl⟩ rfl hl.1 (Nat.le_of_ble_eq_true rfl) (dck_at da_X11_span 8 rfl)) (fun H locs Y => ?_)
    refine lv_if_ne (tgt := 24) X.1 X.2.1 (dck_at da_X11_span 9 rfl) rfl (fun c => ?_) (fun c => ?_)
    · have h := gI_neg h c
      refine lv_aload_n X.1 X.2.1 (dck_at da_X11_span 14 rfl) rfl (lv_at hl 0 rfl) ?_
      refine gr_getR X G Y fk_RX11_12 clC_0 rfl (dck_at da_X11_span 15 rfl) ?_
      refine gr_getR X G Y fk_RX11_189 clC_1 rfl (dck_at da_X11_span 16 rfl) ?_
      refine lv_iload_n X.1 X.2.1 (dck_at da_X11_span 17 rfl) rfl (lv_at hl 1 rfl) ?_
      refine lv_iload_n X.1 X.2.1 (dck_at da_X11_span 18 rfl) rfl (lv_at hl 2 rfl) ?_
      obtain ⟨r4, s4, hc, h⟩ := gB2_some h
      refine gr_backi Y (gr_runV (as := [.int a1, .int a2]) (rest := []) X G Y (ok_c_Book_reach hc) cv_RX11_284 clC_28 ⟨Nat.le_of_ble_eq_true rfl, Nat.le_of_ble_eq_true rfl⟩ rfl hl.1 (Nat.le_of_ble_eq_true rfl) (dck_at da_X11_span 19 rfl)) (fun H locs Y => ?_)
      refine lv_istore_n (lv' := [(3, .int r4), (0, .ref (ad 0)), (1, .int a1), (2, .int a2)]) X.1 X.2.1 (dck_at da_X11_span 20 rfl) rfl hl (by decide) rfl (fun ls hl => ?_)
      refine lv_iload_n X.1 X.2.1 (dck_at da_X11_span 21 rfl) rfl (lv_at hl 0 rfl) ?_
      refine lv_if_ge (tgt := 50) X.1 X.2.1 (dck_at da_X11_span 22 rfl) rfl (fun c => ?_) (fun c => ?_)
      · have h := gI_pos h c
        refine lv_iload_n X.1 X.2.1 (dck_at da_X11_span 27 rfl) rfl (lv_at hl 0 rfl) ?_
        exact gr_iretO X Y h hr rfl hlk (dck_at da_X11_span 28 rfl)
      · have h := gI_neg h c
        refine lv_aload_n X.1 X.2.1 (dck_at da_X11_span 23 rfl) rfl (lv_at hl 1 rfl) ?_
        refine lv_bipush X.1 X.2.1 (dck_at da_X11_span 24 rfl) kb_m4 ?_
        obtain ⟨r5, s5, hc, h⟩ := gB2_some h
        refine gr_backi Y (gr_runV (as := [.int (-4 : Int32)]) (rest := []) X G Y (ok_c_refuse hc) cv_RX11_55 clC_0 ⟨Nat.le_of_ble_eq_true rfl, Nat.le_of_ble_eq_true rfl⟩ rfl hl.1 (Nat.le_of_ble_eq_true rfl) (dck_at da_X11_span 25 rfl)) (fun H locs Y => ?_)
        refine lv_goto (tgt := 51) X.1 X.2.1 (dck_at da_X11_span 26 rfl) rfl ?_
        exact gr_iretO X Y h hr rfl hlk (dck_at da_X11_span 28 rfl)
    · have h := gI_pos h c
      exact b18 s3 _ _ _ h Y (lv_sub hl [0] rfl)
set_option maxRecDepth 100000 in
set_option maxHeartbeats 4000000 in
theorem ok_c_Book_heldUp {l : Launch} {D : va_G} {cy : Nat → ClassId} {ad sa : Nat → Nat} {A : Nat → Prop} {F : Nat}  {s0 : St} {ρ : Int32} {σ' : St} (h : c_Book_heldUp F s0 = some (ρ, σ')) : gMi l shC D cy ad sa A yX0_heldUp cX0_heldUp 4 (some .int) 2 [.ref (ad 28)] s0 ρ σ' := by
  refine gM_of (by decide) (Nat.le_of_ble_eq_true rfl) ?_
  intro p e s m args below meth c ls X G Y hr hlk hl
  have hl : lv_has ls 4 [(0, .ref (ad 28))] := hl
  have b4 : ∀ n : Nat, ∀ (x1 : Int32) (x2 : Int32) (s0 : St) (H : Heap) (locs : List Loc) (ls : Array Slot), c_Book_heldUp_L4 F  n x1 x2 s0 = some (ρ, σ') → gY shC D cy ad A s0 s H locs → lv_has ls 4 [(0, .ref (ad 28)), (1, .int x1), (2, .int x2)] → W p l e (grm 2) s m args below meth c H locs 0 0 (MQ below (va_Qi (fun (q : Int32) (_ : Unit) => q = ρ) (fun _ t => va_P D vwCl (gWl shC cy ad σ') t.heap) A) args s 0 0 A) (F0 m 4 ls []) := by
    intro n
    induction n with
    | zero => intro x1 x2 s0 H locs ls h Y hl; exact (gnone h).elim
    | succ n hk4 =>
      have e : c_Book_heldUp_L4 F  (n + 1) = c_Book_heldUp_L4b F  (c_Book_heldUp_L4 F  n) := rfl
      rw [e]; clear e
      generalize c_Book_heldUp_L4 F  n = k4 at hk4 ⊢
      have b56 : ∀ (x1 : Int32) (x2 : Int32) (s0 : St) (H : Heap) (locs : List Loc) (ls : Array Slot), c_Book_heldUp_J56 F k4 x1 x2 s0 = some (ρ, σ') → gY shC D cy ad A s0 s H locs → lv_has ls 4 [(0, .ref (ad 28)), (1, .int x1), (2, .int x2)] → W p l e (grm 2) s m args below meth c H locs 0 0 (MQ below (va_Qi (fun (q : Int32) (_ : Unit) => q = ρ) (fun _ t => va_P D vwCl (gWl shC cy ad σ') t.heap) A) args s 0 0 A) (F0 m 56 ls []) := by
        intro x1 x2 s0 H locs ls h Y hl
        unfold c_Book_heldUp_J56 at h
        refine lv_iinc (v := x2 + (1 : Int32)) (lv' := [(2, .int (x2 + (1 : Int32))), (0, .ref (ad 28)), (1, .int x1)]) X.1 X.2.1 (dck_at da_X0_heldUp 35 rfl) hl (k := 2) rfl (congrArg (HAdd.hAdd _) ki_1) (by decide) rfl (fun ls hl => ?_)
        refine lv_goto (tgt := 4) X.1 X.2.1 (dck_at da_X0_heldUp 36 rfl) rfl ?_
        exact hk4 x1 (x2 + (1 : Int32)) s0 _ _ _ h Y (lv_sub hl [1, 2, 0] rfl)
      intro x1 x2 s0 H locs ls h Y hl
      unfold c_Book_heldUp_L4b at h
      refine lv_iload_n X.1 X.2.1 (dck_at da_X0_heldUp 4 rfl) rfl (lv_at hl 2 rfl) ?_
      refine lv_aload_n X.1 X.2.1 (dck_at da_X0_heldUp 5 rfl) rfl (lv_at hl 0 rfl) ?_
      refine gr_getI X G Y fk_RX0_21 clC_28 rfl (dck_at da_X0_heldUp 6 rfl) ?_
      refine lv_icmp_ge (tgt := 62) X.1 X.2.1 (dck_at da_X0_heldUp 7 rfl) rfl (fun c => ?_) (fun c => ?_)
      · have h := gI_pos h c
        refine lv_iload_n X.1 X.2.1 (dck_at da_X0_heldUp 37 rfl) rfl (lv_at hl 1 rfl) ?_
        exact gr_iretO X Y h hr rfl hlk (dck_at da_X0_heldUp 38 rfl)
      · have h := gI_neg h c
        refine lv_aload_n X.1 X.2.1 (dck_at da_X0_heldUp 8 rfl) rfl (lv_at hl 0 rfl) ?_
        refine lv_aload_n X.1 X.2.1 (dck_at da_X0_heldUp 9 rfl) rfl (lv_at hl 0 rfl) ?_
        refine gr_getR X G Y fk_RX0_11 clC_28 rfl (dck_at da_X0_heldUp 10 rfl) ?_
        refine lv_iload_n X.1 X.2.1 (dck_at da_X0_heldUp 11 rfl) rfl (lv_at hl 2 rfl) ?_
        obtain ⟨hin, h⟩ := gI_if h
        refine gr_iald X G Y clC_29 hin (dck_at da_X0_heldUp 12 rfl) ?_
        refine lv_bipush X.1 X.2.1 (dck_at da_X0_heldUp 13 rfl) kb_99 ?_
        obtain ⟨r1, s1, hc, h⟩ := gB2_some h
        refine gr_backi Y (gr_runV (as := [.int (s0.1 29 (x2).toNatClampNeg), .int (99 : Int32)]) (rest := []) X G Y (ok_c_Book_within hc) cv_RX0_37 clC_28 ⟨Nat.le_of_ble_eq_true rfl, Nat.le_of_ble_eq_true rfl⟩ rfl hl.1 (Nat.le_of_ble_eq_true rfl) (dck_at da_X0_heldUp 14 rfl)) (fun H locs Y => ?_)
        refine lv_iconst X.1 X.2.1 (dck_at da_X0_heldUp 15 rfl) ki_1 ?_
        refine lv_isub X.1 X.2.1 (dck_at da_X0_heldUp 16 rfl) ?_
        refine lv_istore_n (lv' := [(3, .int (r1 - (1 : Int32))), (0, .ref (ad 28)), (1, .int x1), (2, .int x2)]) X.1 X.2.1 (dck_at da_X0_heldUp 17 rfl) rfl hl (by decide) rfl (fun ls hl => ?_)
        refine lv_aload_n X.1 X.2.1 (dck_at da_X0_heldUp 18 rfl) rfl (lv_at hl 1 rfl) ?_
        refine lv_aload_n X.1 X.2.1 (dck_at da_X0_heldUp 19 rfl) rfl (lv_at hl 1 rfl) ?_
        refine gr_getR X G Y fk_RX0_11 clC_28 rfl (dck_at da_X0_heldUp 20 rfl) ?_
        refine lv_iload_n X.1 X.2.1 (dck_at da_X0_heldUp 21 rfl) rfl (lv_at hl 3 rfl) ?_
        obtain ⟨hin, h⟩ := gI_if h
        refine gr_iald X G Y clC_29 hin (dck_at da_X0_heldUp 22 rfl) ?_
        refine lv_aload_n X.1 X.2.1 (dck_at da_X0_heldUp 23 rfl) rfl (lv_at hl 1 rfl) ?_
        refine gr_getR X G Y fk_RX0_15 clC_28 rfl (dck_at da_X0_heldUp 24 rfl) ?_
        refine lv_iload_n X.1 X.2.1 (dck_at da_X0_heldUp 25 rfl) rfl (lv_at hl 3 rfl) ?_
        obtain ⟨hin, h⟩ := gI_if h
        refine gr_iald X G Y clC_30 hin (dck_at da_X0_heldUp 26 rfl) ?_
        refine lv_iconst X.1 X.2.1 (dck_at da_X0_heldUp 27 rfl) ki_1 ?_
        refine lv_isub X.1 X.2.1 (dck_at da_X0_heldUp 28 rfl) ?_
        obtain ⟨r2, s2, hc, h⟩ := gB2_some h
        refine gr_backi Y (gr_runV (as := [.int (s1.1 29 (x2).toNatClampNeg), .int ((s1.1 30 (x2).toNatClampNeg) - (1 : Int32))]) (rest := []) X G Y (ok_c_Book_within hc) cv_RX0_37 clC_28 ⟨Nat.le_of_ble_eq_true rfl, Nat.le_of_ble_eq_true rfl⟩ rfl hl.1 (Nat.le_of_ble_eq_true rfl) (dck_at da_X0_heldUp 29 rfl)) (fun H locs Y => ?_)
        refine lv_iconst X.1 X.2.1 (dck_at da_X0_heldUp 30 rfl) ki_3 ?_
        refine lv_iload_n X.1 X.2.1 (dck_at da_X0_heldUp 31 rfl) rfl (lv_at hl 0 rfl) ?_
        obtain ⟨r3, s3, hc, h⟩ := gB2_some h
        refine gr_backi Y (gr_runS (as := [.int (3 : Int32), .int (r1 - (1 : Int32))]) (rest := [.int r2]) X G Y (ok_c_Book_quarters hc) cs_RX0_41 ⟨Nat.le_of_ble_eq_true rfl, Nat.le_of_ble_eq_true rfl⟩ rfl hl.1 (Nat.le_of_ble_eq_true rfl) (dck_at da_X0_heldUp 32 rfl)) (fun H locs Y => ?_)
        refine lv_icmp_ge (tgt := 56) X.1 X.2.1 (dck_at da_X0_heldUp 33 rfl) rfl (fun c => ?_) (fun c => ?_)
        · have h := gI_pos h c
          exact b56 x1 x2 s3 _ _ _ h Y (lv_sub hl [1, 2, 3] rfl)
        · have h := gI_neg h c
          refine lv_iinc (v := x1 + (1 : Int32)) (lv' := [(1, .int (x1 + (1 : Int32))), (3, .int (r1 - (1 : Int32))), (0, .ref (ad 28)), (2, .int x2)]) X.1 X.2.1 (dck_at da_X0_heldUp 34 rfl) hl (k := 2) rfl (congrArg (HAdd.hAdd _) ki_1) (by decide) rfl (fun ls hl => ?_)
          exact b56 (x1 + (1 : Int32)) x2 s3 _ _ _ h Y (lv_sub hl [2, 0, 3] rfl)
  unfold c_Book_heldUp at h
  refine lv_iconst X.1 X.2.1 (dck_at da_X0_heldUp 0 rfl) ki_0 ?_
  refine lv_istore_n (lv' := [(1, .int (0 : Int32)), (0, .ref (ad 28))]) X.1 X.2.1 (dck_at da_X0_heldUp 1 rfl) rfl hl (by decide) rfl (fun ls hl => ?_)
  refine lv_iconst X.1 X.2.1 (dck_at da_X0_heldUp 2 rfl) ki_0 ?_
  refine lv_istore_n (lv' := [(2, .int (0 : Int32)), (1, .int (0 : Int32)), (0, .ref (ad 28))]) X.1 X.2.1 (dck_at da_X0_heldUp 3 rfl) rfl hl (by decide) rfl (fun ls hl => ?_)
  exact b4 F (0 : Int32) (0 : Int32) s0 _ _ _ h Y (lv_sub hl [2, 1, 0] rfl)
set_option maxRecDepth 100000 in
set_option maxHeartbeats 4000000 in
theorem ok_c_held {l : Launch} {D : va_G} {cy : Nat → ClassId} {ad sa : Nat → Nat} {A : Nat → Prop} {F : Nat}  {s0 : St} {ρ : Int32} {σ' : St} (h : c_held F s0 = some (ρ, σ')) : gMi l shC D cy ad sa A yX11_held cX11_held 1 (some .int) 3 [.ref (ad 0)] s0 ρ σ' := by
  refine gM_of (by decide) (Nat.le_of_ble_eq_true rfl) ?_
  intro p e s m args below meth c ls X G Y hr hlk hl
  have hl : lv_has ls 1 [(0, .ref (ad 0))] := hl
  unfold c_held at h
  refine lv_aload_n X.1 X.2.1 (dck_at da_X11_held 0 rfl) rfl (lv_at hl 0 rfl) ?_
  refine gr_getR X G Y fk_RX11_12 clC_0 rfl (dck_at da_X11_held 1 rfl) ?_
  refine gr_getR X G Y fk_RX11_189 clC_1 rfl (dck_at da_X11_held 2 rfl) ?_
  obtain ⟨r1, s1, hc, h⟩ := gB2_some h
  refine gr_backi Y (gr_runV (as := []) (rest := []) X G Y (ok_c_Book_heldUp hc) cv_RX11_287 clC_28 ⟨Nat.le_of_ble_eq_true rfl, Nat.le_of_ble_eq_true rfl⟩ rfl hl.1 (Nat.le_of_ble_eq_true rfl) (dck_at da_X11_held 3 rfl)) (fun H locs Y => ?_)
  exact gr_iretO X Y h hr rfl hlk (dck_at da_X11_held 4 rfl)
set_option maxRecDepth 100000 in
set_option maxHeartbeats 4000000 in
theorem ok_c_Door_add {l : Launch} {D : va_G} {cy : Nat → ClassId} {ad sa : Nat → Nat} {A : Nat → Prop} {F : Nat} {a1 : Int32} {a2 : Int32} {s0 : St} {ρ : Int32} {σ' : St} (h : c_Door_add F a1 a2 s0 = some (ρ, σ')) : gMi l shC D cy ad sa A yX1_add cX1_add 3 (some .int) 1 [.ref (ad 32), .int a1, .int a2] s0 ρ σ' := by
  refine gM_of (by decide) (Nat.le_of_ble_eq_true rfl) ?_
  intro p e s m args below meth c ls X G Y hr hlk hl
  have hl : lv_has ls 3 [(0, .ref (ad 32)), (1, .int a1), (2, .int a2)] := hl
  unfold c_Door_add at h
  refine lv_aload_n X.1 X.2.1 (dck_at da_X1_add 0 rfl) rfl (lv_at hl 0 rfl) ?_
  refine gr_getI X G Y fk_RX1_18 clC_32 rfl (dck_at da_X1_add 1 rfl) ?_
  refine lv_bipush X.1 X.2.1 (dck_at da_X1_add 2 rfl) kb_8 ?_
  refine lv_icmp_lt (tgt := 12) X.1 X.2.1 (dck_at da_X1_add 3 rfl) rfl (fun c => ?_) (fun c => ?_)
  · have h := gI_pos h c
    refine lv_aload_n X.1 X.2.1 (dck_at da_X1_add 6 rfl) rfl (lv_at hl 0 rfl) ?_
    refine gr_getR X G Y fk_RX1_11 clC_32 rfl (dck_at da_X1_add 7 rfl) ?_
    refine lv_aload_n X.1 X.2.1 (dck_at da_X1_add 8 rfl) rfl (lv_at hl 0 rfl) ?_
    refine gr_getI X G Y fk_RX1_18 clC_32 rfl (dck_at da_X1_add 9 rfl) ?_
    refine lv_iload_n X.1 X.2.1 (dck_at da_X1_add 10 rfl) rfl (lv_at hl 1 rfl) ?_
    obtain ⟨hin, h⟩ := gI_if h
    refine gr_iast X G Y clC_33 hin (dck_at da_X1_add 11 rfl) (fun H locs Y => ?_)
    refine lv_aload_n X.1 X.2.1 (dck_at da_X1_add 12 rfl) rfl (lv_at hl 0 rfl) ?_
    refine gr_getR X G Y fk_RX1_15 clC_32 rfl (dck_at da_X1_add 13 rfl) ?_
    refine lv_aload_n X.1 X.2.1 (dck_at da_X1_add 14 rfl) rfl (lv_at hl 0 rfl) ?_
    refine gr_getI X G Y fk_RX1_18 clC_32 rfl (dck_at da_X1_add 15 rfl) ?_
    refine lv_iload_n X.1 X.2.1 (dck_at da_X1_add 16 rfl) rfl (lv_at hl 2 rfl) ?_
    obtain ⟨hin, h⟩ := gI_if h
    refine gr_iast X G Y clC_34 hin (dck_at da_X1_add 17 rfl) (fun H locs Y => ?_)
    refine lv_aload_n X.1 X.2.1 (dck_at da_X1_add 18 rfl) rfl (lv_at hl 0 rfl) ?_
    refine lv_dup X.1 X.2.1 (dck_at da_X1_add 19 rfl) rfl ?_
    refine gr_getI X G Y fk_RX1_18 clC_32 rfl (dck_at da_X1_add 20 rfl) ?_
    refine lv_dup_x1 X.1 X.2.1 (dck_at da_X1_add 21 rfl) rfl rfl ?_
    refine lv_iconst X.1 X.2.1 (dck_at da_X1_add 22 rfl) ki_1 ?_
    refine lv_iadd X.1 X.2.1 (dck_at da_X1_add 23 rfl) ?_
    refine gr_putI X G Y fp_RX1_18 clC_32 rfl (dck_at da_X1_add 24 rfl) (fun H locs Y => ?_)
    exact gr_iretO X Y h hr rfl hlk (dck_at da_X1_add 25 rfl)
  · have h := gI_neg h c
    refine lv_bipush X.1 X.2.1 (dck_at da_X1_add 4 rfl) kb_m3 ?_
    exact gr_iretO X Y h hr rfl hlk (dck_at da_X1_add 5 rfl)
set_option maxRecDepth 100000 in
set_option maxHeartbeats 4000000 in
theorem ok_c_measure {l : Launch} {D : va_G} {cy : Nat → ClassId} {ad sa : Nat → Nat} {A : Nat → Prop} {F : Nat} {a1 : Int32} {a2 : Int32} {s0 : St} {ρ : Int32} {σ' : St} (h : c_measure F a1 a2 s0 = some (ρ, σ')) : gMi l shC D cy ad sa A yX11_measure cX11_measure 3 (some .int) 4 [.ref (ad 0), .int a1, .int a2] s0 ρ σ' := by
  refine gM_of (by decide) (Nat.le_of_ble_eq_true rfl) ?_
  intro p e s m args below meth c ls X G Y hr hlk hl
  have hl : lv_has ls 3 [(0, .ref (ad 0)), (1, .int a1), (2, .int a2)] := hl
  have b20 : ∀  (s0 : St) (H : Heap) (locs : List Loc) (ls : Array Slot), c_measure_J20 F  s0 = some (ρ, σ') → gY shC D cy ad A s0 s H locs → lv_has ls 3 [(0, .ref (ad 0))] → W p l e (grm 4) s m args below meth c H locs 0 0 (MQ below (va_Qi (fun (q : Int32) (_ : Unit) => q = ρ) (fun _ t => va_P D vwCl (gWl shC cy ad σ') t.heap) A) args s 0 0 A) (F0 m 20 ls []) := by
    intro s0 H locs ls h Y hl
    unfold c_measure_J20 at h
    refine lv_aload_n X.1 X.2.1 (dck_at da_X11_measure 10 rfl) rfl (lv_at hl 0 rfl) ?_
    refine lv_iconst X.1 X.2.1 (dck_at da_X11_measure 11 rfl) ki_m1 ?_
    obtain ⟨r1, s1, hc, h⟩ := gB2_some h
    refine gr_backi Y (gr_runV (as := [.int (-1 : Int32)]) (rest := []) X G Y (ok_c_refuse hc) cv_RX11_55 clC_0 ⟨Nat.le_of_ble_eq_true rfl, Nat.le_of_ble_eq_true rfl⟩ rfl hl.1 (Nat.le_of_ble_eq_true rfl) (dck_at da_X11_measure 12 rfl)) (fun H locs Y => ?_)
    exact gr_iretO X Y h hr rfl hlk (dck_at da_X11_measure 13 rfl)
  unfold c_measure at h
  refine lv_iload_n X.1 X.2.1 (dck_at da_X11_measure 0 rfl) rfl (lv_at hl 1 rfl) ?_
  refine lv_iconst X.1 X.2.1 (dck_at da_X11_measure 1 rfl) ki_0 ?_
  refine lv_bipush X.1 X.2.1 (dck_at da_X11_measure 2 rfl) kb_15 ?_
  obtain ⟨r2, s2, hc, h⟩ := gB2_some h
  refine gr_backi Y (gr_runS (as := [.int a1, .int (0 : Int32), .int (15 : Int32)]) (rest := []) X G Y (ok_c_isIn hc) cs_RX11_68 ⟨Nat.le_of_ble_eq_true rfl, Nat.le_of_ble_eq_true rfl⟩ rfl hl.1 (Nat.le_of_ble_eq_true rfl) (dck_at da_X11_measure 3 rfl)) (fun H locs Y => ?_)
  refine lv_if_eq (tgt := 20) X.1 X.2.1 (dck_at da_X11_measure 4 rfl) rfl (fun c => ?_) (fun c => ?_)
  · have h := gI_pos h c
    exact b20 s2 _ _ _ h Y (lv_sub hl [0] rfl)
  · have h := gI_neg h c
    refine lv_iload_n X.1 X.2.1 (dck_at da_X11_measure 5 rfl) rfl (lv_at hl 2 rfl) ?_
    refine lv_iconst X.1 X.2.1 (dck_at da_X11_measure 6 rfl) ki_0 ?_
    refine lv_bipush X.1 X.2.1 (dck_at da_X11_measure 7 rfl) kb_15 ?_
    obtain ⟨r3, s3, hc, h⟩ := gB2_some h
    refine gr_backi Y (gr_runS (as := [.int a2, .int (0 : Int32), .int (15 : Int32)]) (rest := []) X G Y (ok_c_isIn hc) cs_RX11_68 ⟨Nat.le_of_ble_eq_true rfl, Nat.le_of_ble_eq_true rfl⟩ rfl hl.1 (Nat.le_of_ble_eq_true rfl) (dck_at da_X11_measure 8 rfl)) (fun H locs Y => ?_)
    refine lv_if_ne (tgt := 26) X.1 X.2.1 (dck_at da_X11_measure 9 rfl) rfl (fun c => ?_) (fun c => ?_)
    · have h := gI_neg h c
      refine lv_aload_n X.1 X.2.1 (dck_at da_X11_measure 14 rfl) rfl (lv_at hl 0 rfl) ?_
      refine lv_aload_n X.1 X.2.1 (dck_at da_X11_measure 15 rfl) rfl (lv_at hl 0 rfl) ?_
      refine gr_getR X G Y fk_RX11_12 clC_0 rfl (dck_at da_X11_measure 16 rfl) ?_
      refine gr_getR X G Y fk_RX11_196 clC_1 rfl (dck_at da_X11_measure 17 rfl) ?_
      refine lv_iload_n X.1 X.2.1 (dck_at da_X11_measure 18 rfl) rfl (lv_at hl 1 rfl) ?_
      refine lv_iload_n X.1 X.2.1 (dck_at da_X11_measure 19 rfl) rfl (lv_at hl 2 rfl) ?_
      obtain ⟨r4, s4, hc, h⟩ := gB2_some h
      refine gr_backi Y (gr_runV (as := [.int a1, .int a2]) (rest := [.ref (ad 0)]) X G Y (ok_c_Door_add hc) cv_RX11_290 clC_32 ⟨Nat.le_of_ble_eq_true rfl, Nat.le_of_ble_eq_true rfl⟩ rfl hl.1 (Nat.le_of_ble_eq_true rfl) (dck_at da_X11_measure 20 rfl)) (fun H locs Y => ?_)
      obtain ⟨r5, s5, hc, h⟩ := gB2_some h
      refine gr_backi Y (gr_runV (as := [.int r4]) (rest := []) X G Y (ok_c_answered hc) cv_RX11_109 clC_0 ⟨Nat.le_of_ble_eq_true rfl, Nat.le_of_ble_eq_true rfl⟩ rfl hl.1 (Nat.le_of_ble_eq_true rfl) (dck_at da_X11_measure 21 rfl)) (fun H locs Y => ?_)
      exact gr_iretO X Y h hr rfl hlk (dck_at da_X11_measure 22 rfl)
    · have h := gI_pos h c
      exact b20 s3 _ _ _ h Y (lv_sub hl [0] rfl)
set_option maxRecDepth 100000 in
set_option maxHeartbeats 4000000 in
theorem ok_c_Door_isSet {l : Launch} {D : va_G} {cy : Nat → ClassId} {ad sa : Nat → Nat} {A : Nat → Prop} {F : Nat} {a1 : Int32} {s0 : St} {ρ : Int32} {σ' : St} (h : c_Door_isSet F a1 s0 = some (ρ, σ')) : gMi l shC D cy ad sa A yX1_isSet cX1_isSet 2 (some .boolean) 1 [.ref (ad 32), .int a1] s0 ρ σ' := by
  refine gM_of (by decide) (Nat.le_of_ble_eq_true rfl) ?_
  intro p e s m args below meth c ls X G Y hr hlk hl
  have hl : lv_has ls 2 [(0, .ref (ad 32)), (1, .int a1)] := hl
  have b18 : ∀  (s0 : St) (H : Heap) (locs : List Loc) (ls : Array Slot), c_Door_isSet_J18 F  s0 = some (ρ, σ') → gY shC D cy ad A s0 s H locs → lv_has ls 2 [] → W p l e (grm 1) s m args below meth c H locs 0 0 (MQ below (va_Qi (fun (q : Int32) (_ : Unit) => q = ρ) (fun _ t => va_P D vwCl (gWl shC cy ad σ') t.heap) A) args s 0 0 A) (F0 m 18 ls []) := by
    intro s0 H locs ls h Y hl
    unfold c_Door_isSet_J18 at h
    refine lv_iconst X.1 X.2.1 (dck_at da_X1_isSet 10 rfl) ki_0 ?_
    exact gr_iretO X Y h hr rfl hlk (dck_at da_X1_isSet 11 rfl)
  unfold c_Door_isSet at h
  refine lv_iload_n X.1 X.2.1 (dck_at da_X1_isSet 0 rfl) rfl (lv_at hl 1 rfl) ?_
  refine lv_if_lt (tgt := 18) X.1 X.2.1 (dck_at da_X1_isSet 1 rfl) rfl (fun c => ?_) (fun c => ?_)
  · have h := gI_pos h c
    exact b18 s0 _ _ _ h Y (lv_sub hl [] rfl)
  · have h := gI_neg h c
    refine lv_iload_n X.1 X.2.1 (dck_at da_X1_isSet 2 rfl) rfl (lv_at hl 1 rfl) ?_
    refine lv_iconst X.1 X.2.1 (dck_at da_X1_isSet 3 rfl) ki_1 ?_
    refine lv_aload_n X.1 X.2.1 (dck_at da_X1_isSet 4 rfl) rfl (lv_at hl 0 rfl) ?_
    refine gr_getI X G Y fk_RX1_18 clC_32 rfl (dck_at da_X1_isSet 5 rfl) ?_
    refine lv_ishl X.1 X.2.1 (dck_at da_X1_isSet 6 rfl) ?_
    refine lv_icmp_ge (tgt := 18) X.1 X.2.1 (dck_at da_X1_isSet 7 rfl) rfl (fun c => ?_) (fun c => ?_)
    · have h := gI_pos h c
      exact b18 s0 _ _ _ h Y (lv_sub hl [] rfl)
    · have h := gI_neg h c
      refine lv_iconst X.1 X.2.1 (dck_at da_X1_isSet 8 rfl) ki_1 ?_
      refine lv_goto (tgt := 19) X.1 X.2.1 (dck_at da_X1_isSet 9 rfl) rfl ?_
      exact gr_iretO X Y h hr rfl hlk (dck_at da_X1_isSet 11 rfl)
set_option maxRecDepth 100000 in
set_option maxHeartbeats 4000000 in
theorem ok_c_Door_left {l : Launch} {D : va_G} {cy : Nat → ClassId} {ad sa : Nat → Nat} {A : Nat → Prop} {F : Nat} {a1 : Int32} {s0 : St} {ρ : Int64} {σ' : St} (h : c_Door_left F a1 s0 = some (ρ, σ')) : gMl l shC D cy ad sa A yX1_left cX1_left 5 (some .long) 1 [.ref (ad 32), .int a1] s0 ρ σ' := by
  refine gM_of (by decide) (Nat.le_of_ble_eq_true rfl) ?_
  intro p e s m args below meth c ls X G Y hr hlk hl
  have hl : lv_has ls 5 [(0, .ref (ad 32)), (1, .int a1)] := hl
  have b5 : ∀ n : Nat, ∀ (x1 : Int32) (x2 : Int64) (x4 : Int32) (s0 : St) (H : Heap) (locs : List Loc) (ls : Array Slot), c_Door_left_L5 F  n x1 x2 x4 s0 = some (ρ, σ') → gY shC D cy ad A s0 s H locs → lv_has ls 5 [(0, .ref (ad 32)), (1, .int x1), (2, .long x2), (4, .int x4)] → W p l e (grm 1) s m args below meth c H locs 0 0 (MQ below (va_Ql (fun (q : Int64) (_ : Unit) => q = ρ) (fun _ t => va_P D vwCl (gWl shC cy ad σ') t.heap) A) args s 0 0 A) (F0 m 5 ls []) := by
    intro n
    induction n with
    | zero => intro x1 x2 x4 s0 H locs ls h Y hl; exact (gnone h).elim
    | succ n hk5 =>
      have e : c_Door_left_L5 F  (n + 1) = c_Door_left_L5b F  (c_Door_left_L5 F  n) := rfl
      rw [e]; clear e
      generalize c_Door_left_L5 F  n = k5 at hk5 ⊢
      have b37 : ∀ (x1 : Int32) (x2 : Int64) (x4 : Int32) (s0 : St) (H : Heap) (locs : List Loc) (ls : Array Slot), c_Door_left_J37 F k5 x1 x2 x4 s0 = some (ρ, σ') → gY shC D cy ad A s0 s H locs → lv_has ls 5 [(0, .ref (ad 32)), (1, .int x1), (2, .long x2), (4, .int x4)] → W p l e (grm 1) s m args below meth c H locs 0 0 (MQ below (va_Ql (fun (q : Int64) (_ : Unit) => q = ρ) (fun _ t => va_P D vwCl (gWl shC cy ad σ') t.heap) A) args s 0 0 A) (F0 m 37 ls []) := by
        intro x1 x2 x4 s0 H locs ls h Y hl
        unfold c_Door_left_J37 at h
        refine lv_iinc (v := x4 + (1 : Int32)) (lv' := [(4, .int (x4 + (1 : Int32))), (0, .ref (ad 32)), (1, .int x1), (2, .long x2)]) X.1 X.2.1 (dck_at da_X1_left 24 rfl) hl (k := 3) rfl (congrArg (HAdd.hAdd _) ki_1) (by decide) rfl (fun ls hl => ?_)
        refine lv_goto (tgt := 5) X.1 X.2.1 (dck_at da_X1_left 25 rfl) rfl ?_
        exact hk5 x1 x2 (x4 + (1 : Int32)) s0 _ _ _ h Y (lv_sub hl [1, 2, 3, 0] rfl)
      intro x1 x2 x4 s0 H locs ls h Y hl
      unfold c_Door_left_L5b at h
      refine lv_iload X.1 X.2.1 (dck_at da_X1_left 4 rfl) (lv_at hl 3 rfl) ?_
      refine lv_aload_n X.1 X.2.1 (dck_at da_X1_left 5 rfl) rfl (lv_at hl 0 rfl) ?_
      refine gr_getI X G Y fk_RX1_18 clC_32 rfl (dck_at da_X1_left 6 rfl) ?_
      refine lv_icmp_ge (tgt := 43) X.1 X.2.1 (dck_at da_X1_left 7 rfl) rfl (fun c => ?_) (fun c => ?_)
      · have h := gI_pos h c
        refine lv_lload_n X.1 X.2.1 (dck_at da_X1_left 26 rfl) rfl (lv_at hl 2 rfl) ?_
        exact gr_lretO X Y h hr hlk (dck_at da_X1_left 27 rfl)
      · have h := gI_neg h c
        refine lv_iload_n X.1 X.2.1 (dck_at da_X1_left 8 rfl) rfl (lv_at hl 1 rfl) ?_
        refine lv_iconst X.1 X.2.1 (dck_at da_X1_left 9 rfl) ki_1 ?_
        refine lv_iload X.1 X.2.1 (dck_at da_X1_left 10 rfl) (lv_at hl 3 rfl) ?_
        refine lv_ishl X.1 X.2.1 (dck_at da_X1_left 11 rfl) ?_
        refine lv_iand X.1 X.2.1 (dck_at da_X1_left 12 rfl) ?_
        refine lv_if_eq (tgt := 37) X.1 X.2.1 (dck_at da_X1_left 13 rfl) rfl (fun c => ?_) (fun c => ?_)
        · have h := gI_pos h c
          exact b37 x1 x2 x4 s0 _ _ _ h Y (lv_sub hl [0, 1, 2, 3] rfl)
        · have h := gI_neg h c
          refine lv_lload_n X.1 X.2.1 (dck_at da_X1_left 14 rfl) rfl (lv_at hl 2 rfl) ?_
          refine lv_bipush X.1 X.2.1 (dck_at da_X1_left 15 rfl) kb_16 ?_
          refine lv_aload_n X.1 X.2.1 (dck_at da_X1_left 16 rfl) rfl (lv_at hl 0 rfl) ?_
          refine gr_getR X G Y fk_RX1_11 clC_32 rfl (dck_at da_X1_left 17 rfl) ?_
          refine lv_iload X.1 X.2.1 (dck_at da_X1_left 18 rfl) (lv_at hl 3 rfl) ?_
          obtain ⟨hin, h⟩ := gI_if h
          refine gr_iald X G Y clC_33 hin (dck_at da_X1_left 19 rfl) ?_
          refine lv_isub X.1 X.2.1 (dck_at da_X1_left 20 rfl) ?_
          refine lv_i2l (v := ((16 : Int32) - (s0.1 33 (x4).toNatClampNeg)).toInt64) X.1 X.2.1 (dck_at da_X1_left 21 rfl) rfl ?_
          refine lv_lmul X.1 X.2.1 (dck_at da_X1_left 22 rfl) ?_
          refine lv_lstore_n (lv' := [(2, .long (x2 * (((16 : Int32) - (s0.1 33 (x4).toNatClampNeg)).toInt64))), (0, .ref (ad 32)), (1, .int x1), (4, .int x4)]) X.1 X.2.1 (dck_at da_X1_left 23 rfl) rfl hl (by decide) rfl (fun ls hl => ?_)
          exact b37 x1 (x2 * (((16 : Int32) - (s0.1 33 (x4).toNatClampNeg)).toInt64)) x4 s0 _ _ _ h Y (lv_sub hl [1, 2, 0, 3] rfl)
  unfold c_Door_left at h
  refine lv_lconst (v := 1) X.1 X.2.1 (dck_at da_X1_left 0 rfl) rfl ?_
  refine lv_lstore_n (lv' := [(2, .long (1 : Int64)), (0, .ref (ad 32)), (1, .int a1)]) X.1 X.2.1 (dck_at da_X1_left 1 rfl) rfl hl (by decide) rfl (fun ls hl => ?_)
  refine lv_iconst X.1 X.2.1 (dck_at da_X1_left 2 rfl) ki_0 ?_
  refine lv_istore (lv' := [(4, .int (0 : Int32)), (2, .long (1 : Int64)), (0, .ref (ad 32)), (1, .int a1)]) X.1 X.2.1 (dck_at da_X1_left 3 rfl) hl (by decide) rfl (fun ls hl => ?_)
  exact b5 F a1 (1 : Int64) (0 : Int32) s0 _ _ _ h Y (lv_sub hl [2, 3, 1, 0] rfl)
set_option maxRecDepth 100000 in
set_option maxHeartbeats 4000000 in
theorem ok_c_Integer_bitCount {l : Launch} {D : va_G} {cy : Nat → ClassId} {ad sa : Nat → Nat} {A : Nat → Prop} {F : Nat} {a0 : Int32} {s0 : St} {ρ : Int32} {σ' : St} (h : c_Integer_bitCount F a0 s0 = some (ρ, σ')) : gMi l shC D cy ad sa A yJ6_bitCount_0f7a4 cJ6_bitCount_0f7a4 1 (some .int) 1 [.int a0] s0 ρ σ' := by
  refine gM_of (by decide) (Nat.le_of_ble_eq_true rfl) ?_
  intro p e s m args below meth c ls X G Y hr hlk hl
  have hl : lv_has ls 1 [(0, .int a0)] := hl
  unfold c_Integer_bitCount at h
  refine lv_iload_n X.1 X.2.1 (dck_at da_J6_bitCount_0f7a4 0 rfl) rfl (lv_at hl 0 rfl) ?_
  refine lv_iload_n X.1 X.2.1 (dck_at da_J6_bitCount_0f7a4 1 rfl) rfl (lv_at hl 0 rfl) ?_
  refine lv_iconst X.1 X.2.1 (dck_at da_J6_bitCount_0f7a4 2 rfl) ki_1 ?_
  refine lv_iushr (v := ((a0).toUInt32 >>> (((1 : Int32)).toUInt32 &&& Int32.toUInt32 31)).toInt32) X.1 X.2.1 (dck_at da_J6_bitCount_0f7a4 3 rfl) rfl ?_
  refine lv_ldcw X.1 X.2.1 X.2.2.2.1 (X.2.2.2.2 _ wm_941) (dck_at da_J6_bitCount_0f7a4 4 rfl) ?_
  refine lv_iand X.1 X.2.1 (dck_at da_J6_bitCount_0f7a4 5 rfl) ?_
  refine lv_isub X.1 X.2.1 (dck_at da_J6_bitCount_0f7a4 6 rfl) ?_
  refine lv_istore_n (lv' := [(0, .int (a0 - ((((a0).toUInt32 >>> (((1 : Int32)).toUInt32 &&& Int32.toUInt32 31)).toInt32) &&& (1431655765 : Int32))))]) X.1 X.2.1 (dck_at da_J6_bitCount_0f7a4 7 rfl) rfl hl (by decide) rfl (fun ls hl => ?_)
  refine lv_iload_n X.1 X.2.1 (dck_at da_J6_bitCount_0f7a4 8 rfl) rfl (lv_at hl 0 rfl) ?_
  refine lv_ldcw X.1 X.2.1 X.2.2.2.1 (X.2.2.2.2 _ wm_942) (dck_at da_J6_bitCount_0f7a4 9 rfl) ?_
  refine lv_iand X.1 X.2.1 (dck_at da_J6_bitCount_0f7a4 10 rfl) ?_
  refine lv_iload_n X.1 X.2.1 (dck_at da_J6_bitCount_0f7a4 11 rfl) rfl (lv_at hl 0 rfl) ?_
  refine lv_iconst X.1 X.2.1 (dck_at da_J6_bitCount_0f7a4 12 rfl) ki_2 ?_
  refine lv_iushr (v := ((a0 - ((((a0).toUInt32 >>> (((1 : Int32)).toUInt32 &&& Int32.toUInt32 31)).toInt32) &&& (1431655765 : Int32))).toUInt32 >>> (((2 : Int32)).toUInt32 &&& Int32.toUInt32 31)).toInt32) X.1 X.2.1 (dck_at da_J6_bitCount_0f7a4 13 rfl) rfl ?_
  refine lv_ldcw X.1 X.2.1 X.2.2.2.1 (X.2.2.2.2 _ wm_942) (dck_at da_J6_bitCount_0f7a4 14 rfl) ?_
  refine lv_iand X.1 X.2.1 (dck_at da_J6_bitCount_0f7a4 15 rfl) ?_
  refine lv_iadd X.1 X.2.1 (dck_at da_J6_bitCount_0f7a4 16 rfl) ?_
  refine lv_istore_n (lv' := [(0, .int (((a0 - ((((a0).toUInt32 >>> (((1 : Int32)).toUInt32 &&& Int32.toUInt32 31)).toInt32) &&& (1431655765 : Int32))) &&& (858993459 : Int32)) + ((((a0 - ((((a0).toUInt32 >>> (((1 : Int32)).toUInt32 &&& Int32.toUInt32 31)).toInt32) &&& (1431655765 : Int32))).toUInt32 >>> (((2 : Int32)).toUInt32 &&& Int32.toUInt32 31)).toInt32) &&& (858993459 : Int32))))]) X.1 X.2.1 (dck_at da_J6_bitCount_0f7a4 17 rfl) rfl hl (by decide) rfl (fun ls hl => ?_)
  refine lv_iload_n X.1 X.2.1 (dck_at da_J6_bitCount_0f7a4 18 rfl) rfl (lv_at hl 0 rfl) ?_
  refine lv_iload_n X.1 X.2.1 (dck_at da_J6_bitCount_0f7a4 19 rfl) rfl (lv_at hl 0 rfl) ?_
  refine lv_iconst X.1 X.2.1 (dck_at da_J6_bitCount_0f7a4 20 rfl) ki_4 ?_
  refine lv_iushr (v := ((((a0 - ((((a0).toUInt32 >>> (((1 : Int32)).toUInt32 &&& Int32.toUInt32 31)).toInt32) &&& (1431655765 : Int32))) &&& (858993459 : Int32)) + ((((a0 - ((((a0).toUInt32 >>> (((1 : Int32)).toUInt32 &&& Int32.toUInt32 31)).toInt32) &&& (1431655765 : Int32))).toUInt32 >>> (((2 : Int32)).toUInt32 &&& Int32.toUInt32 31)).toInt32) &&& (858993459 : Int32))).toUInt32 >>> (((4 : Int32)).toUInt32 &&& Int32.toUInt32 31)).toInt32) X.1 X.2.1 (dck_at da_J6_bitCount_0f7a4 21 rfl) rfl ?_
  refine lv_iadd X.1 X.2.1 (dck_at da_J6_bitCount_0f7a4 22 rfl) ?_
  refine lv_ldcw X.1 X.2.1 X.2.2.2.1 (X.2.2.2.2 _ wm_943) (dck_at da_J6_bitCount_0f7a4 23 rfl) ?_
  refine lv_iand X.1 X.2.1 (dck_at da_J6_bitCount_0f7a4 24 rfl) ?_
  refine lv_istore_n (lv' := [(0, .int (((((a0 - ((((a0).toUInt32 >>> (((1 : Int32)).toUInt32 &&& Int32.toUInt32 31)).toInt32) &&& (1431655765 : Int32))) &&& (858993459 : Int32)) + ((((a0 - ((((a0).toUInt32 >>> (((1 : Int32)).toUInt32 &&& Int32.toUInt32 31)).toInt32) &&& (1431655765 : Int32))).toUInt32 >>> (((2 : Int32)).toUInt32 &&& Int32.toUInt32 31)).toInt32) &&& (858993459 : Int32))) + (((((a0 - ((((a0).toUInt32 >>> (((1 : Int32)).toUInt32 &&& Int32.toUInt32 31)).toInt32) &&& (1431655765 : Int32))) &&& (858993459 : Int32)) + ((((a0 - ((((a0).toUInt32 >>> (((1 : Int32)).toUInt32 &&& Int32.toUInt32 31)).toInt32) &&& (1431655765 : Int32))).toUInt32 >>> (((2 : Int32)).toUInt32 &&& Int32.toUInt32 31)).toInt32) &&& (858993459 : Int32))).toUInt32 >>> (((4 : Int32)).toUInt32 &&& Int32.toUInt32 31)).toInt32)) &&& (252645135 : Int32)))]) X.1 X.2.1 (dck_at da_J6_bitCount_0f7a4 25 rfl) rfl hl (by decide) rfl (fun ls hl => ?_)
  refine lv_iload_n X.1 X.2.1 (dck_at da_J6_bitCount_0f7a4 26 rfl) rfl (lv_at hl 0 rfl) ?_
  refine lv_iload_n X.1 X.2.1 (dck_at da_J6_bitCount_0f7a4 27 rfl) rfl (lv_at hl 0 rfl) ?_
  refine lv_bipush X.1 X.2.1 (dck_at da_J6_bitCount_0f7a4 28 rfl) kb_8 ?_
  refine lv_iushr (v := ((((((a0 - ((((a0).toUInt32 >>> (((1 : Int32)).toUInt32 &&& Int32.toUInt32 31)).toInt32) &&& (1431655765 : Int32))) &&& (858993459 : Int32)) + ((((a0 - ((((a0).toUInt32 >>> (((1 : Int32)).toUInt32 &&& Int32.toUInt32 31)).toInt32) &&& (1431655765 : Int32))).toUInt32 >>> (((2 : Int32)).toUInt32 &&& Int32.toUInt32 31)).toInt32) &&& (858993459 : Int32))) + (((((a0 - ((((a0).toUInt32 >>> (((1 : Int32)).toUInt32 &&& Int32.toUInt32 31)).toInt32) &&& (1431655765 : Int32))) &&& (858993459 : Int32)) + ((((a0 - ((((a0).toUInt32 >>> (((1 : Int32)).toUInt32 &&& Int32.toUInt32 31)).toInt32) &&& (1431655765 : Int32))).toUInt32 >>> (((2 : Int32)).toUInt32 &&& Int32.toUInt32 31)).toInt32) &&& (858993459 : Int32))).toUInt32 >>> (((4 : Int32)).toUInt32 &&& Int32.toUInt32 31)).toInt32)) &&& (252645135 : Int32)).toUInt32 >>> (((8 : Int32)).toUInt32 &&& Int32.toUInt32 31)).toInt32) X.1 X.2.1 (dck_at da_J6_bitCount_0f7a4 29 rfl) rfl ?_
  refine lv_iadd X.1 X.2.1 (dck_at da_J6_bitCount_0f7a4 30 rfl) ?_
  refine lv_istore_n (lv' := [(0, .int ((((((a0 - ((((a0).toUInt32 >>> (((1 : Int32)).toUInt32 &&& Int32.toUInt32 31)).toInt32) &&& (1431655765 : Int32))) &&& (858993459 : Int32)) + ((((a0 - ((((a0).toUInt32 >>> (((1 : Int32)).toUInt32 &&& Int32.toUInt32 31)).toInt32) &&& (1431655765 : Int32))).toUInt32 >>> (((2 : Int32)).toUInt32 &&& Int32.toUInt32 31)).toInt32) &&& (858993459 : Int32))) + (((((a0 - ((((a0).toUInt32 >>> (((1 : Int32)).toUInt32 &&& Int32.toUInt32 31)).toInt32) &&& (1431655765 : Int32))) &&& (858993459 : Int32)) + ((((a0 - ((((a0).toUInt32 >>> (((1 : Int32)).toUInt32 &&& Int32.toUInt32 31)).toInt32) &&& (1431655765 : Int32))).toUInt32 >>> (((2 : Int32)).toUInt32 &&& Int32.toUInt32 31)).toInt32) &&& (858993459 : Int32))).toUInt32 >>> (((4 : Int32)).toUInt32 &&& Int32.toUInt32 31)).toInt32)) &&& (252645135 : Int32)) + (((((((a0 - ((((a0).toUInt32 >>> (((1 : Int32)).toUInt32 &&& Int32.toUInt32 31)).toInt32) &&& (1431655765 : Int32))) &&& (858993459 : Int32)) + ((((a0 - ((((a0).toUInt32 >>> (((1 : Int32)).toUInt32 &&& Int32.toUInt32 31)).toInt32) &&& (1431655765 : Int32))).toUInt32 >>> (((2 : Int32)).toUInt32 &&& Int32.toUInt32 31)).toInt32) &&& (858993459 : Int32))) + (((((a0 - ((((a0).toUInt32 >>> (((1 : Int32)).toUInt32 &&& Int32.toUInt32 31)).toInt32) &&& (1431655765 : Int32))) &&& (858993459 : Int32)) + ((((a0 - ((((a0).toUInt32 >>> (((1 : Int32)).toUInt32 &&& Int32.toUInt32 31)).toInt32) &&& (1431655765 : Int32))).toUInt32 >>> (((2 : Int32)).toUInt32 &&& Int32.toUInt32 31)).toInt32) &&& (858993459 : Int32))).toUInt32 >>> (((4 : Int32)).toUInt32 &&& Int32.toUInt32 31)).toInt32)) &&& (252645135 : Int32)).toUInt32 >>> (((8 : Int32)).toUInt32 &&& Int32.toUInt32 31)).toInt32)))]) X.1 X.2.1 (dck_at da_J6_bitCount_0f7a4 31 rfl) rfl hl (by decide) rfl (fun ls hl => ?_)
  refine lv_iload_n X.1 X.2.1 (dck_at da_J6_bitCount_0f7a4 32 rfl) rfl (lv_at hl 0 rfl) ?_
  refine lv_iload_n X.1 X.2.1 (dck_at da_J6_bitCount_0f7a4 33 rfl) rfl (lv_at hl 0 rfl) ?_
  refine lv_bipush X.1 X.2.1 (dck_at da_J6_bitCount_0f7a4 34 rfl) kb_16 ?_
  refine lv_iushr (v := (((((((a0 - ((((a0).toUInt32 >>> (((1 : Int32)).toUInt32 &&& Int32.toUInt32 31)).toInt32) &&& (1431655765 : Int32))) &&& (858993459 : Int32)) + ((((a0 - ((((a0).toUInt32 >>> (((1 : Int32)).toUInt32 &&& Int32.toUInt32 31)).toInt32) &&& (1431655765 : Int32))).toUInt32 >>> (((2 : Int32)).toUInt32 &&& Int32.toUInt32 31)).toInt32) &&& (858993459 : Int32))) + (((((a0 - ((((a0).toUInt32 >>> (((1 : Int32)).toUInt32 &&& Int32.toUInt32 31)).toInt32) &&& (1431655765 : Int32))) &&& (858993459 : Int32)) + ((((a0 - ((((a0).toUInt32 >>> (((1 : Int32)).toUInt32 &&& Int32.toUInt32 31)).toInt32) &&& (1431655765 : Int32))).toUInt32 >>> (((2 : Int32)).toUInt32 &&& Int32.toUInt32 31)).toInt32) &&& (858993459 : Int32))).toUInt32 >>> (((4 : Int32)).toUInt32 &&& Int32.toUInt32 31)).toInt32)) &&& (252645135 : Int32)) + (((((((a0 - ((((a0).toUInt32 >>> (((1 : Int32)).toUInt32 &&& Int32.toUInt32 31)).toInt32) &&& (1431655765 : Int32))) &&& (858993459 : Int32)) + ((((a0 - ((((a0).toUInt32 >>> (((1 : Int32)).toUInt32 &&& Int32.toUInt32 31)).toInt32) &&& (1431655765 : Int32))).toUInt32 >>> (((2 : Int32)).toUInt32 &&& Int32.toUInt32 31)).toInt32) &&& (858993459 : Int32))) + (((((a0 - ((((a0).toUInt32 >>> (((1 : Int32)).toUInt32 &&& Int32.toUInt32 31)).toInt32) &&& (1431655765 : Int32))) &&& (858993459 : Int32)) + ((((a0 - ((((a0).toUInt32 >>> (((1 : Int32)).toUInt32 &&& Int32.toUInt32 31)).toInt32) &&& (1431655765 : Int32))).toUInt32 >>> (((2 : Int32)).toUInt32 &&& Int32.toUInt32 31)).toInt32) &&& (858993459 : Int32))).toUInt32 >>> (((4 : Int32)).toUInt32 &&& Int32.toUInt32 31)).toInt32)) &&& (252645135 : Int32)).toUInt32 >>> (((8 : Int32)).toUInt32 &&& Int32.toUInt32 31)).toInt32)).toUInt32 >>> (((16 : Int32)).toUInt32 &&& Int32.toUInt32 31)).toInt32) X.1 X.2.1 (dck_at da_J6_bitCount_0f7a4 35 rfl) rfl ?_
  refine lv_iadd X.1 X.2.1 (dck_at da_J6_bitCount_0f7a4 36 rfl) ?_
  refine lv_istore_n (lv' := [(0, .int (((((((a0 - ((((a0).toUInt32 >>> (((1 : Int32)).toUInt32 &&& Int32.toUInt32 31)).toInt32) &&& (1431655765 : Int32))) &&& (858993459 : Int32)) + ((((a0 - ((((a0).toUInt32 >>> (((1 : Int32)).toUInt32 &&& Int32.toUInt32 31)).toInt32) &&& (1431655765 : Int32))).toUInt32 >>> (((2 : Int32)).toUInt32 &&& Int32.toUInt32 31)).toInt32) &&& (858993459 : Int32))) + (((((a0 - ((((a0).toUInt32 >>> (((1 : Int32)).toUInt32 &&& Int32.toUInt32 31)).toInt32) &&& (1431655765 : Int32))) &&& (858993459 : Int32)) + ((((a0 - ((((a0).toUInt32 >>> (((1 : Int32)).toUInt32 &&& Int32.toUInt32 31)).toInt32) &&& (1431655765 : Int32))).toUInt32 >>> (((2 : Int32)).toUInt32 &&& Int32.toUInt32 31)).toInt32) &&& (858993459 : Int32))).toUInt32 >>> (((4 : Int32)).toUInt32 &&& Int32.toUInt32 31)).toInt32)) &&& (252645135 : Int32)) + (((((((a0 - ((((a0).toUInt32 >>> (((1 : Int32)).toUInt32 &&& Int32.toUInt32 31)).toInt32) &&& (1431655765 : Int32))) &&& (858993459 : Int32)) + ((((a0 - ((((a0).toUInt32 >>> (((1 : Int32)).toUInt32 &&& Int32.toUInt32 31)).toInt32) &&& (1431655765 : Int32))).toUInt32 >>> (((2 : Int32)).toUInt32 &&& Int32.toUInt32 31)).toInt32) &&& (858993459 : Int32))) + (((((a0 - ((((a0).toUInt32 >>> (((1 : Int32)).toUInt32 &&& Int32.toUInt32 31)).toInt32) &&& (1431655765 : Int32))) &&& (858993459 : Int32)) + ((((a0 - ((((a0).toUInt32 >>> (((1 : Int32)).toUInt32 &&& Int32.toUInt32 31)).toInt32) &&& (1431655765 : Int32))).toUInt32 >>> (((2 : Int32)).toUInt32 &&& Int32.toUInt32 31)).toInt32) &&& (858993459 : Int32))).toUInt32 >>> (((4 : Int32)).toUInt32 &&& Int32.toUInt32 31)).toInt32)) &&& (252645135 : Int32)).toUInt32 >>> (((8 : Int32)).toUInt32 &&& Int32.toUInt32 31)).toInt32)) + ((((((((a0 - ((((a0).toUInt32 >>> (((1 : Int32)).toUInt32 &&& Int32.toUInt32 31)).toInt32) &&& (1431655765 : Int32))) &&& (858993459 : Int32)) + ((((a0 - ((((a0).toUInt32 >>> (((1 : Int32)).toUInt32 &&& Int32.toUInt32 31)).toInt32) &&& (1431655765 : Int32))).toUInt32 >>> (((2 : Int32)).toUInt32 &&& Int32.toUInt32 31)).toInt32) &&& (858993459 : Int32))) + (((((a0 - ((((a0).toUInt32 >>> (((1 : Int32)).toUInt32 &&& Int32.toUInt32 31)).toInt32) &&& (1431655765 : Int32))) &&& (858993459 : Int32)) + ((((a0 - ((((a0).toUInt32 >>> (((1 : Int32)).toUInt32 &&& Int32.toUInt32 31)).toInt32) &&& (1431655765 : Int32))).toUInt32 >>> (((2 : Int32)).toUInt32 &&& Int32.toUInt32 31)).toInt32) &&& (858993459 : Int32))).toUInt32 >>> (((4 : Int32)).toUInt32 &&& Int32.toUInt32 31)).toInt32)) &&& (252645135 : Int32)) + (((((((a0 - ((((a0).toUInt32 >>> (((1 : Int32)).toUInt32 &&& Int32.toUInt32 31)).toInt32) &&& (1431655765 : Int32))) &&& (858993459 : Int32)) + ((((a0 - ((((a0).toUInt32 >>> (((1 : Int32)).toUInt32 &&& Int32.toUInt32 31)).toInt32) &&& (1431655765 : Int32))).toUInt32 >>> (((2 : Int32)).toUInt32 &&& Int32.toUInt32 31)).toInt32) &&& (858993459 : Int32))) + (((((a0 - ((((a0).toUInt32 >>> (((1 : Int32)).toUInt32 &&& Int32.toUInt32 31)).toInt32) &&& (1431655765 : Int32))) &&& (858993459 : Int32)) + ((((a0 - ((((a0).toUInt32 >>> (((1 : Int32)).toUInt32 &&& Int32.toUInt32 31)).toInt32) &&& (1431655765 : Int32))).toUInt32 >>> (((2 : Int32)).toUInt32 &&& Int32.toUInt32 31)).toInt32) &&& (858993459 : Int32))).toUInt32 >>> (((4 : Int32)).toUInt32 &&& Int32.toUInt32 31)).toInt32)) &&& (252645135 : Int32)).toUInt32 >>> (((8 : Int32)).toUInt32 &&& Int32.toUInt32 31)).toInt32)).toUInt32 >>> (((16 : Int32)).toUInt32 &&& Int32.toUInt32 31)).toInt32)))]) X.1 X.2.1 (dck_at da_J6_bitCount_0f7a4 37 rfl) rfl hl (by decide) rfl (fun ls hl => ?_)
  refine lv_iload_n X.1 X.2.1 (dck_at da_J6_bitCount_0f7a4 38 rfl) rfl (lv_at hl 0 rfl) ?_
  refine lv_bipush X.1 X.2.1 (dck_at da_J6_bitCount_0f7a4 39 rfl) kb_63 ?_
  refine lv_iand X.1 X.2.1 (dck_at da_J6_bitCount_0f7a4 40 rfl) ?_
  exact gr_iretO X Y h hr rfl hlk (dck_at da_J6_bitCount_0f7a4 41 rfl)
set_option maxRecDepth 100000 in
set_option maxHeartbeats 4000000 in
theorem ok_c_Door_whole {l : Launch} {D : va_G} {cy : Nat → ClassId} {ad sa : Nat → Nat} {A : Nat → Prop} {F : Nat} {a1 : Int32} {s0 : St} {ρ : Int64} {σ' : St} (h : c_Door_whole F a1 s0 = some (ρ, σ')) : gMl l shC D cy ad sa A yX1_whole cX1_whole 2 (some .long) 2 [.ref (ad 32), .int a1] s0 ρ σ' := by
  refine gM_of (by decide) (Nat.le_of_ble_eq_true rfl) ?_
  intro p e s m args below meth c ls X G Y hr hlk hl
  have hl : lv_has ls 2 [(0, .ref (ad 32)), (1, .int a1)] := hl
  unfold c_Door_whole at h
  refine lv_lconst (v := 1) X.1 X.2.1 (dck_at da_X1_whole 0 rfl) rfl ?_
  refine lv_iconst X.1 X.2.1 (dck_at da_X1_whole 1 rfl) ki_4 ?_
  refine lv_iload_n X.1 X.2.1 (dck_at da_X1_whole 2 rfl) rfl (lv_at hl 1 rfl) ?_
  obtain ⟨r1, s1, hc, h⟩ := gB2_some h
  refine gr_backi Y (gr_runS (as := [.int a1]) (rest := [.int (4 : Int32), .long (1 : Int64)]) X G Y (ok_c_Integer_bitCount hc) cs_RX1_28 ⟨Nat.le_of_ble_eq_true rfl, Nat.le_of_ble_eq_true rfl⟩ rfl hl.1 (Nat.le_of_ble_eq_true rfl) (dck_at da_X1_whole 3 rfl)) (fun H locs Y => ?_)
  refine lv_imul X.1 X.2.1 (dck_at da_X1_whole 4 rfl) ?_
  refine lv_lshl (v := ((1 : Int64)) <<< (((4 : Int32) * r1).toInt64 &&& 63)) X.1 X.2.1 (dck_at da_X1_whole 5 rfl) rfl ?_
  exact gr_lretO X Y h hr hlk (dck_at da_X1_whole 6 rfl)
set_option maxRecDepth 100000 in
set_option maxHeartbeats 4000000 in
theorem ok_c_leaves {l : Launch} {D : va_G} {cy : Nat → ClassId} {ad sa : Nat → Nat} {A : Nat → Prop} {F : Nat} {a1 : Int32} {a2 : Int32} {s0 : St} {ρ : Int64} {σ' : St} (h : c_leaves F a1 a2 s0 = some (ρ, σ')) : gMl l shC D cy ad sa A yX11_leaves cX11_leaves 3 (some .long) 3 [.ref (ad 0), .int a1, .int a2] s0 ρ σ' := by
  refine gM_of (by decide) (Nat.le_of_ble_eq_true rfl) ?_
  intro p e s m args below meth c ls X G Y hr hlk hl
  have hl : lv_has ls 3 [(0, .ref (ad 0)), (1, .int a1), (2, .int a2)] := hl
  have b21 : ∀  (s0 : St) (H : Heap) (locs : List Loc) (ls : Array Slot), c_leaves_J21 F  s0 = some (ρ, σ') → gY shC D cy ad A s0 s H locs → lv_has ls 3 [(0, .ref (ad 0))] → W p l e (grm 3) s m args below meth c H locs 0 0 (MQ below (va_Ql (fun (q : Int64) (_ : Unit) => q = ρ) (fun _ t => va_P D vwCl (gWl shC cy ad σ') t.heap) A) args s 0 0 A) (F0 m 21 ls []) := by
    intro s0 H locs ls h Y hl
    unfold c_leaves_J21 at h
    refine lv_aload_n X.1 X.2.1 (dck_at da_X11_leaves 9 rfl) rfl (lv_at hl 0 rfl) ?_
    refine lv_iconst X.1 X.2.1 (dck_at da_X11_leaves 10 rfl) ki_m1 ?_
    obtain ⟨r1, s1, hc, h⟩ := gB2_some h
    refine gr_backi Y (gr_runV (as := [.int (-1 : Int32)]) (rest := []) X G Y (ok_c_refuse hc) cv_RX11_55 clC_0 ⟨Nat.le_of_ble_eq_true rfl, Nat.le_of_ble_eq_true rfl⟩ rfl hl.1 (Nat.le_of_ble_eq_true rfl) (dck_at da_X11_leaves 11 rfl)) (fun H locs Y => ?_)
    refine lv_i2l (v := (r1).toInt64) X.1 X.2.1 (dck_at da_X11_leaves 12 rfl) rfl ?_
    exact gr_lretO X Y h hr hlk (dck_at da_X11_leaves 13 rfl)
  unfold c_leaves at h
  refine lv_aload_n X.1 X.2.1 (dck_at da_X11_leaves 0 rfl) rfl (lv_at hl 0 rfl) ?_
  refine gr_getR X G Y fk_RX11_12 clC_0 rfl (dck_at da_X11_leaves 1 rfl) ?_
  refine gr_getR X G Y fk_RX11_196 clC_1 rfl (dck_at da_X11_leaves 2 rfl) ?_
  refine lv_iload_n X.1 X.2.1 (dck_at da_X11_leaves 3 rfl) rfl (lv_at hl 1 rfl) ?_
  obtain ⟨r2, s2, hc, h⟩ := gB2_some h
  refine gr_backi Y (gr_runV (as := [.int a1]) (rest := []) X G Y (ok_c_Door_isSet hc) cv_RX11_292 clC_32 ⟨Nat.le_of_ble_eq_true rfl, Nat.le_of_ble_eq_true rfl⟩ rfl hl.1 (Nat.le_of_ble_eq_true rfl) (dck_at da_X11_leaves 4 rfl)) (fun H locs Y => ?_)
  refine lv_if_eq (tgt := 21) X.1 X.2.1 (dck_at da_X11_leaves 5 rfl) rfl (fun c => ?_) (fun c => ?_)
  · have h := gI_pos h c
    exact b21 s2 _ _ _ h Y (lv_sub hl [0] rfl)
  · have h := gI_neg h c
    refine lv_iload_n X.1 X.2.1 (dck_at da_X11_leaves 6 rfl) rfl (lv_at hl 2 rfl) ?_
    obtain ⟨r3, s3, hc, h⟩ := gB2_some h
    refine gr_backi Y (gr_runS (as := [.int a2]) (rest := []) X G Y (ok_c_isPart hc) cs_RX11_155 ⟨Nat.le_of_ble_eq_true rfl, Nat.le_of_ble_eq_true rfl⟩ rfl hl.1 (Nat.le_of_ble_eq_true rfl) (dck_at da_X11_leaves 7 rfl)) (fun H locs Y => ?_)
    refine lv_if_ne (tgt := 28) X.1 X.2.1 (dck_at da_X11_leaves 8 rfl) rfl (fun c => ?_) (fun c => ?_)
    · have h := gI_neg h c
      refine lv_aload_n X.1 X.2.1 (dck_at da_X11_leaves 14 rfl) rfl (lv_at hl 0 rfl) ?_
      refine gr_getR X G Y fk_RX11_12 clC_0 rfl (dck_at da_X11_leaves 15 rfl) ?_
      refine gr_getR X G Y fk_RX11_196 clC_1 rfl (dck_at da_X11_leaves 16 rfl) ?_
      refine lv_iload_n X.1 X.2.1 (dck_at da_X11_leaves 17 rfl) rfl (lv_at hl 1 rfl) ?_
      obtain ⟨r4, s4, hc, h⟩ := gB2_some h
      refine gr_backl Y (gr_runV (as := [.int a1]) (rest := []) X G Y (ok_c_Door_left hc) cv_RX11_295 clC_32 ⟨Nat.le_of_ble_eq_true rfl, Nat.le_of_ble_eq_true rfl⟩ rfl hl.1 (Nat.le_of_ble_eq_true rfl) (dck_at da_X11_leaves 18 rfl)) (fun H locs Y => ?_)
      refine lv_aload_n X.1 X.2.1 (dck_at da_X11_leaves 19 rfl) rfl (lv_at hl 0 rfl) ?_
      refine gr_getR X G Y fk_RX11_12 clC_0 rfl (dck_at da_X11_leaves 20 rfl) ?_
      refine gr_getR X G Y fk_RX11_196 clC_1 rfl (dck_at da_X11_leaves 21 rfl) ?_
      refine lv_iload_n X.1 X.2.1 (dck_at da_X11_leaves 22 rfl) rfl (lv_at hl 1 rfl) ?_
      obtain ⟨r5, s5, hc, h⟩ := gB2_some h
      refine gr_backl Y (gr_runV (as := [.int a1]) (rest := [.long r4]) X G Y (ok_c_Door_whole hc) cv_RX11_298 clC_32 ⟨Nat.le_of_ble_eq_true rfl, Nat.le_of_ble_eq_true rfl⟩ rfl hl.1 (Nat.le_of_ble_eq_true rfl) (dck_at da_X11_leaves 23 rfl)) (fun H locs Y => ?_)
      refine lv_iload_n X.1 X.2.1 (dck_at da_X11_leaves 24 rfl) rfl (lv_at hl 2 rfl) ?_
      obtain ⟨r6, s6, hc, h⟩ := gB2_some h
      refine gr_backl Y (gr_runS (as := [.long r4, .long r5, .int a2]) (rest := []) X G Y (ok_c_lowest hc) cs_RX11_162 ⟨Nat.le_of_ble_eq_true rfl, Nat.le_of_ble_eq_true rfl⟩ rfl hl.1 (Nat.le_of_ble_eq_true rfl) (dck_at da_X11_leaves 25 rfl)) (fun H locs Y => ?_)
      exact gr_lretO X Y h hr hlk (dck_at da_X11_leaves 26 rfl)
    · have h := gI_pos h c
      exact b21 s3 _ _ _ h Y (lv_sub hl [0] rfl)
set_option maxRecDepth 100000 in
set_option maxHeartbeats 4000000 in
theorem ok_c_Door_shutIn {l : Launch} {D : va_G} {cy : Nat → ClassId} {ad sa : Nat → Nat} {A : Nat → Prop} {F : Nat} {a1 : Int32} {s0 : St} {ρ : Int32} {σ' : St} (h : c_Door_shutIn F a1 s0 = some (ρ, σ')) : gMi l shC D cy ad sa A yX1_shutIn cX1_shutIn 4 (some .int) 1 [.ref (ad 32), .int a1] s0 ρ σ' := by
  refine gM_of (by decide) (Nat.le_of_ble_eq_true rfl) ?_
  intro p e s m args below meth c ls X G Y hr hlk hl
  have hl : lv_has ls 4 [(0, .ref (ad 32)), (1, .int a1)] := hl
  have b4 : ∀ n : Nat, ∀ (x1 : Int32) (x2 : Int32) (x3 : Int32) (s0 : St) (H : Heap) (locs : List Loc) (ls : Array Slot), c_Door_shutIn_L4 F  n x1 x2 x3 s0 = some (ρ, σ') → gY shC D cy ad A s0 s H locs → lv_has ls 4 [(0, .ref (ad 32)), (1, .int x1), (2, .int x2), (3, .int x3)] → W p l e (grm 1) s m args below meth c H locs 0 0 (MQ below (va_Qi (fun (q : Int32) (_ : Unit) => q = ρ) (fun _ t => va_P D vwCl (gWl shC cy ad σ') t.heap) A) args s 0 0 A) (F0 m 4 ls []) := by
    intro n
    induction n with
    | zero => intro x1 x2 x3 s0 H locs ls h Y hl; exact (gnone h).elim
    | succ n hk4 =>
      have e : c_Door_shutIn_L4 F  (n + 1) = c_Door_shutIn_L4b F  (c_Door_shutIn_L4 F  n) := rfl
      rw [e]; clear e
      generalize c_Door_shutIn_L4 F  n = k4 at hk4 ⊢
      have b29 : ∀ (x1 : Int32) (x2 : Int32) (x3 : Int32) (s0 : St) (H : Heap) (locs : List Loc) (ls : Array Slot), c_Door_shutIn_J29 F k4 x1 x2 x3 s0 = some (ρ, σ') → gY shC D cy ad A s0 s H locs → lv_has ls 4 [(0, .ref (ad 32)), (1, .int x1), (2, .int x2), (3, .int x3)] → W p l e (grm 1) s m args below meth c H locs 0 0 (MQ below (va_Qi (fun (q : Int32) (_ : Unit) => q = ρ) (fun _ t => va_P D vwCl (gWl shC cy ad σ') t.heap) A) args s 0 0 A) (F0 m 29 ls []) := by
        intro x1 x2 x3 s0 H locs ls h Y hl
        unfold c_Door_shutIn_J29 at h
        refine lv_iinc (v := x3 + (1 : Int32)) (lv' := [(3, .int (x3 + (1 : Int32))), (0, .ref (ad 32)), (1, .int x1), (2, .int x2)]) X.1 X.2.1 (dck_at da_X1_shutIn 21 rfl) hl (k := 3) rfl (congrArg (HAdd.hAdd _) ki_1) (by decide) rfl (fun ls hl => ?_)
        refine lv_goto (tgt := 4) X.1 X.2.1 (dck_at da_X1_shutIn 22 rfl) rfl ?_
        exact hk4 x1 x2 (x3 + (1 : Int32)) s0 _ _ _ h Y (lv_sub hl [1, 2, 3, 0] rfl)
      intro x1 x2 x3 s0 H locs ls h Y hl
      unfold c_Door_shutIn_L4b at h
      refine lv_iload_n X.1 X.2.1 (dck_at da_X1_shutIn 4 rfl) rfl (lv_at hl 3 rfl) ?_
      refine lv_aload_n X.1 X.2.1 (dck_at da_X1_shutIn 5 rfl) rfl (lv_at hl 0 rfl) ?_
      refine gr_getI X G Y fk_RX1_18 clC_32 rfl (dck_at da_X1_shutIn 6 rfl) ?_
      refine lv_icmp_ge (tgt := 35) X.1 X.2.1 (dck_at da_X1_shutIn 7 rfl) rfl (fun c => ?_) (fun c => ?_)
      · have h := gI_pos h c
        refine lv_iload_n X.1 X.2.1 (dck_at da_X1_shutIn 23 rfl) rfl (lv_at hl 2 rfl) ?_
        exact gr_iretO X Y h hr rfl hlk (dck_at da_X1_shutIn 24 rfl)
      · have h := gI_neg h c
        refine lv_iload_n X.1 X.2.1 (dck_at da_X1_shutIn 8 rfl) rfl (lv_at hl 1 rfl) ?_
        refine lv_iconst X.1 X.2.1 (dck_at da_X1_shutIn 9 rfl) ki_1 ?_
        refine lv_iload_n X.1 X.2.1 (dck_at da_X1_shutIn 10 rfl) rfl (lv_at hl 3 rfl) ?_
        refine lv_ishl X.1 X.2.1 (dck_at da_X1_shutIn 11 rfl) ?_
        refine lv_iand X.1 X.2.1 (dck_at da_X1_shutIn 12 rfl) ?_
        refine lv_if_eq (tgt := 29) X.1 X.2.1 (dck_at da_X1_shutIn 13 rfl) rfl (fun c => ?_) (fun c => ?_)
        · have h := gI_pos h c
          exact b29 x1 x2 x3 s0 _ _ _ h Y (lv_sub hl [0, 1, 2, 3] rfl)
        · have h := gI_neg h c
          refine lv_iload_n X.1 X.2.1 (dck_at da_X1_shutIn 14 rfl) rfl (lv_at hl 2 rfl) ?_
          refine lv_aload_n X.1 X.2.1 (dck_at da_X1_shutIn 15 rfl) rfl (lv_at hl 0 rfl) ?_
          refine gr_getR X G Y fk_RX1_15 clC_32 rfl (dck_at da_X1_shutIn 16 rfl) ?_
          refine lv_iload_n X.1 X.2.1 (dck_at da_X1_shutIn 17 rfl) rfl (lv_at hl 3 rfl) ?_
          obtain ⟨hin, h⟩ := gI_if h
          refine gr_iald X G Y clC_34 hin (dck_at da_X1_shutIn 18 rfl) ?_
          refine lv_iadd X.1 X.2.1 (dck_at da_X1_shutIn 19 rfl) ?_
          refine lv_istore_n (lv' := [(2, .int (x2 + (s0.1 34 (x3).toNatClampNeg))), (0, .ref (ad 32)), (1, .int x1), (3, .int x3)]) X.1 X.2.1 (dck_at da_X1_shutIn 20 rfl) rfl hl (by decide) rfl (fun ls hl => ?_)
          exact b29 x1 (x2 + (s0.1 34 (x3).toNatClampNeg)) x3 s0 _ _ _ h Y (lv_sub hl [1, 2, 0, 3] rfl)
  unfold c_Door_shutIn at h
  refine lv_iconst X.1 X.2.1 (dck_at da_X1_shutIn 0 rfl) ki_0 ?_
  refine lv_istore_n (lv' := [(2, .int (0 : Int32)), (0, .ref (ad 32)), (1, .int a1)]) X.1 X.2.1 (dck_at da_X1_shutIn 1 rfl) rfl hl (by decide) rfl (fun ls hl => ?_)
  refine lv_iconst X.1 X.2.1 (dck_at da_X1_shutIn 2 rfl) ki_0 ?_
  refine lv_istore_n (lv' := [(3, .int (0 : Int32)), (2, .int (0 : Int32)), (0, .ref (ad 32)), (1, .int a1)]) X.1 X.2.1 (dck_at da_X1_shutIn 3 rfl) rfl hl (by decide) rfl (fun ls hl => ?_)
  exact b4 F a1 (0 : Int32) (0 : Int32) s0 _ _ _ h Y (lv_sub hl [2, 3, 1, 0] rfl)
set_option maxRecDepth 100000 in
set_option maxHeartbeats 4000000 in
theorem ok_c_Door_mildest {l : Launch} {D : va_G} {cy : Nat → ClassId} {ad sa : Nat → Nat} {A : Nat → Prop} {F : Nat} {a1 : Int32} {s0 : St} {ρ : Int32} {σ' : St} (h : c_Door_mildest F a1 s0 = some (ρ, σ')) : gMi l shC D cy ad sa A yX1_mildest cX1_mildest 4 (some .int) 3 [.ref (ad 32), .int a1] s0 ρ σ' := by
  refine gM_of (by decide) (Nat.le_of_ble_eq_true rfl) ?_
  intro p e s m args below meth c ls X G Y hr hlk hl
  have hl : lv_has ls 4 [(0, .ref (ad 32)), (1, .int a1)] := hl
  have b4 : ∀ n : Nat, ∀ (x1 : Int32) (x2 : Int32) (x3 : Int32) (s0 : St) (H : Heap) (locs : List Loc) (ls : Array Slot), c_Door_mildest_L4 F  n x1 x2 x3 s0 = some (ρ, σ') → gY shC D cy ad A s0 s H locs → lv_has ls 4 [(0, .ref (ad 32)), (1, .int x1), (2, .int x2), (3, .int x3)] → W p l e (grm 3) s m args below meth c H locs 0 0 (MQ below (va_Qi (fun (q : Int32) (_ : Unit) => q = ρ) (fun _ t => va_P D vwCl (gWl shC cy ad σ') t.heap) A) args s 0 0 A) (F0 m 4 ls []) := by
    intro n
    induction n with
    | zero => intro x1 x2 x3 s0 H locs ls h Y hl; exact (gnone h).elim
    | succ n hk4 =>
      have e : c_Door_mildest_L4 F  (n + 1) = c_Door_mildest_L4b F  (c_Door_mildest_L4 F  n) := rfl
      rw [e]; clear e
      generalize c_Door_mildest_L4 F  n = k4 at hk4 ⊢
      have b57 : ∀ (x1 : Int32) (x2 : Int32) (x3 : Int32) (s0 : St) (H : Heap) (locs : List Loc) (ls : Array Slot), c_Door_mildest_J57 F k4 x1 x2 x3 s0 = some (ρ, σ') → gY shC D cy ad A s0 s H locs → lv_has ls 4 [(0, .ref (ad 32)), (1, .int x1), (2, .int x2), (3, .int x3)] → W p l e (grm 3) s m args below meth c H locs 0 0 (MQ below (va_Qi (fun (q : Int32) (_ : Unit) => q = ρ) (fun _ t => va_P D vwCl (gWl shC cy ad σ') t.heap) A) args s 0 0 A) (F0 m 57 ls []) := by
        intro x1 x2 x3 s0 H locs ls h Y hl
        unfold c_Door_mildest_J57 at h
        refine lv_iinc (v := x3 + (1 : Int32)) (lv' := [(3, .int (x3 + (1 : Int32))), (0, .ref (ad 32)), (1, .int x1), (2, .int x2)]) X.1 X.2.1 (dck_at da_X1_mildest 35 rfl) hl (k := 3) rfl (congrArg (HAdd.hAdd _) ki_1) (by decide) rfl (fun ls hl => ?_)
        refine lv_goto (tgt := 4) X.1 X.2.1 (dck_at da_X1_mildest 36 rfl) rfl ?_
        exact hk4 x1 x2 (x3 + (1 : Int32)) s0 _ _ _ h Y (lv_sub hl [1, 2, 3, 0] rfl)
      have b55 : ∀ (x1 : Int32) (x3 : Int32) (s0 : St) (H : Heap) (locs : List Loc) (ls : Array Slot), c_Door_mildest_J55 F k4 x1 x3 s0 = some (ρ, σ') → gY shC D cy ad A s0 s H locs → lv_has ls 4 [(0, .ref (ad 32)), (1, .int x1), (3, .int x3)] → W p l e (grm 3) s m args below meth c H locs 0 0 (MQ below (va_Qi (fun (q : Int32) (_ : Unit) => q = ρ) (fun _ t => va_P D vwCl (gWl shC cy ad σ') t.heap) A) args s 0 0 A) (F0 m 55 ls []) := by
        intro x1 x3 s0 H locs ls h Y hl
        unfold c_Door_mildest_J55 at h
        refine lv_iload_n X.1 X.2.1 (dck_at da_X1_mildest 33 rfl) rfl (lv_at hl 2 rfl) ?_
        refine lv_istore_n (lv' := [(2, .int x3), (0, .ref (ad 32)), (1, .int x1), (3, .int x3)]) X.1 X.2.1 (dck_at da_X1_mildest 34 rfl) rfl hl (by decide) rfl (fun ls hl => ?_)
        exact b57 x1 x3 x3 s0 _ _ _ h Y (lv_sub hl [1, 2, 0, 3] rfl)
      intro x1 x2 x3 s0 H locs ls h Y hl
      unfold c_Door_mildest_L4b at h
      refine lv_iload_n X.1 X.2.1 (dck_at da_X1_mildest 4 rfl) rfl (lv_at hl 3 rfl) ?_
      refine lv_iconst X.1 X.2.1 (dck_at da_X1_mildest 5 rfl) ki_1 ?_
      refine lv_aload_n X.1 X.2.1 (dck_at da_X1_mildest 6 rfl) rfl (lv_at hl 0 rfl) ?_
      refine gr_getI X G Y fk_RX1_18 clC_32 rfl (dck_at da_X1_mildest 7 rfl) ?_
      refine lv_ishl X.1 X.2.1 (dck_at da_X1_mildest 8 rfl) ?_
      refine lv_icmp_ge (tgt := 63) X.1 X.2.1 (dck_at da_X1_mildest 9 rfl) rfl (fun c => ?_) (fun c => ?_)
      · have h := gI_pos h c
        refine lv_iload_n X.1 X.2.1 (dck_at da_X1_mildest 37 rfl) rfl (lv_at hl 2 rfl) ?_
        exact gr_iretO X Y h hr rfl hlk (dck_at da_X1_mildest 38 rfl)
      · have h := gI_neg h c
        refine lv_aload_n X.1 X.2.1 (dck_at da_X1_mildest 10 rfl) rfl (lv_at hl 0 rfl) ?_
        refine lv_iload_n X.1 X.2.1 (dck_at da_X1_mildest 11 rfl) rfl (lv_at hl 3 rfl) ?_
        obtain ⟨r1, s1, hc, h⟩ := gB2_some h
        refine gr_backl Y (gr_runV (as := [.int x3]) (rest := []) X G Y (ok_c_Door_left hc) cv_RX1_34 clC_32 ⟨Nat.le_of_ble_eq_true rfl, Nat.le_of_ble_eq_true rfl⟩ rfl hl.1 (Nat.le_of_ble_eq_true rfl) (dck_at da_X1_mildest 12 rfl)) (fun H locs Y => ?_)
        refine lv_ldc2 X.1 X.2.1 X.2.2.2.1 (X.2.2.2.2 _ wm_953) (dck_at da_X1_mildest 13 rfl) ?_
        refine lv_lmul X.1 X.2.1 (dck_at da_X1_mildest 14 rfl) ?_
        refine lv_aload_n X.1 X.2.1 (dck_at da_X1_mildest 15 rfl) rfl (lv_at hl 0 rfl) ?_
        refine lv_iload_n X.1 X.2.1 (dck_at da_X1_mildest 16 rfl) rfl (lv_at hl 3 rfl) ?_
        obtain ⟨r2, s2, hc, h⟩ := gB2_some h
        refine gr_backl Y (gr_runV (as := [.int x3]) (rest := [.long (r1 * (16 : Int64))]) X G Y (ok_c_Door_whole hc) cv_RX1_40 clC_32 ⟨Nat.le_of_ble_eq_true rfl, Nat.le_of_ble_eq_true rfl⟩ rfl hl.1 (Nat.le_of_ble_eq_true rfl) (dck_at da_X1_mildest 17 rfl)) (fun H locs Y => ?_)
        refine lv_iload_n X.1 X.2.1 (dck_at da_X1_mildest 18 rfl) rfl (lv_at hl 1 rfl) ?_
        refine lv_i2l (v := (x1).toInt64) X.1 X.2.1 (dck_at da_X1_mildest 19 rfl) rfl ?_
        refine lv_lmul X.1 X.2.1 (dck_at da_X1_mildest 20 rfl) ?_
        refine W.lcmp X.1 X.2.1 (dck_at da_X1_mildest 21 rfl) ?_
        refine lv_if_le (tgt := 38) X.1 X.2.1 (dck_at da_X1_mildest 22 rfl) rfl (fun c => ?_) (fun c => ?_)
        · have h := gI_pos h c
          refine lv_iload_n X.1 X.2.1 (dck_at da_X1_mildest 24 rfl) rfl (lv_at hl 2 rfl) ?_
          refine lv_if_lt (tgt := 55) X.1 X.2.1 (dck_at da_X1_mildest 25 rfl) rfl (fun c => ?_) (fun c => ?_)
          · have h := gI_pos h c
            exact b55 x1 x3 s2 _ _ _ h Y (lv_sub hl [0, 1, 3] rfl)
          · have h := gI_neg h c
            refine lv_aload_n X.1 X.2.1 (dck_at da_X1_mildest 26 rfl) rfl (lv_at hl 0 rfl) ?_
            refine lv_iload_n X.1 X.2.1 (dck_at da_X1_mildest 27 rfl) rfl (lv_at hl 3 rfl) ?_
            obtain ⟨r3, s3, hc, h⟩ := gB2_some h
            refine gr_backi Y (gr_runV (as := [.int x3]) (rest := []) X G Y (ok_c_Door_shutIn hc) cv_RX1_43 clC_32 ⟨Nat.le_of_ble_eq_true rfl, Nat.le_of_ble_eq_true rfl⟩ rfl hl.1 (Nat.le_of_ble_eq_true rfl) (dck_at da_X1_mildest 28 rfl)) (fun H locs Y => ?_)
            refine lv_aload_n X.1 X.2.1 (dck_at da_X1_mildest 29 rfl) rfl (lv_at hl 0 rfl) ?_
            refine lv_iload_n X.1 X.2.1 (dck_at da_X1_mildest 30 rfl) rfl (lv_at hl 2 rfl) ?_
            obtain ⟨r4, s4, hc, h⟩ := gB2_some h
            refine gr_backi Y (gr_runV (as := [.int x2]) (rest := [.int r3]) X G Y (ok_c_Door_shutIn hc) cv_RX1_43 clC_32 ⟨Nat.le_of_ble_eq_true rfl, Nat.le_of_ble_eq_true rfl⟩ rfl hl.1 (Nat.le_of_ble_eq_true rfl) (dck_at da_X1_mildest 31 rfl)) (fun H locs Y => ?_)
            refine lv_icmp_ge (tgt := 57) X.1 X.2.1 (dck_at da_X1_mildest 32 rfl) rfl (fun c => ?_) (fun c => ?_)
            · have h := gI_pos h c
              exact b57 x1 x2 x3 s4 _ _ _ h Y (lv_sub hl [0, 1, 2, 3] rfl)
            · have h := gI_neg h c
              exact b55 x1 x3 s4 _ _ _ h Y (lv_sub hl [0, 1, 3] rfl)
        · have h := gI_neg h c
          refine lv_goto (tgt := 57) X.1 X.2.1 (dck_at da_X1_mildest 23 rfl) rfl ?_
          exact b57 x1 x2 x3 s2 _ _ _ h Y (lv_sub hl [0, 1, 2, 3] rfl)
  unfold c_Door_mildest at h
  refine lv_iconst X.1 X.2.1 (dck_at da_X1_mildest 0 rfl) ki_m1 ?_
  refine lv_istore_n (lv' := [(2, .int (-1 : Int32)), (0, .ref (ad 32)), (1, .int a1)]) X.1 X.2.1 (dck_at da_X1_mildest 1 rfl) rfl hl (by decide) rfl (fun ls hl => ?_)
  refine lv_iconst X.1 X.2.1 (dck_at da_X1_mildest 2 rfl) ki_0 ?_
  refine lv_istore_n (lv' := [(3, .int (0 : Int32)), (2, .int (-1 : Int32)), (0, .ref (ad 32)), (1, .int a1)]) X.1 X.2.1 (dck_at da_X1_mildest 3 rfl) rfl hl (by decide) rfl (fun ls hl => ?_)
  exact b4 F a1 (-1 : Int32) (0 : Int32) s0 _ _ _ h Y (lv_sub hl [2, 3, 1, 0] rfl)
set_option maxRecDepth 100000 in
set_option maxHeartbeats 4000000 in
theorem ok_c_least {l : Launch} {D : va_G} {cy : Nat → ClassId} {ad sa : Nat → Nat} {A : Nat → Prop} {F : Nat} {a1 : Int32} {a2 : Int32} {s0 : St} {ρ : Int32} {σ' : St} (h : c_least F a1 a2 s0 = some (ρ, σ')) : gMi l shC D cy ad sa A yX11_least cX11_least 4 (some .int) 4 [.ref (ad 0), .int a1, .int a2] s0 ρ σ' := by
  refine gM_of (by decide) (Nat.le_of_ble_eq_true rfl) ?_
  intro p e s m args below meth c ls X G Y hr hlk hl
  have hl : lv_has ls 4 [(0, .ref (ad 0)), (1, .int a1), (2, .int a2)] := hl
  have b19 : ∀  (s0 : St) (H : Heap) (locs : List Loc) (ls : Array Slot), c_least_J19 F  s0 = some (ρ, σ') → gY shC D cy ad A s0 s H locs → lv_has ls 4 [(0, .ref (ad 0))] → W p l e (grm 4) s m args below meth c H locs 0 0 (MQ below (va_Qi (fun (q : Int32) (_ : Unit) => q = ρ) (fun _ t => va_P D vwCl (gWl shC cy ad σ') t.heap) A) args s 0 0 A) (F0 m 19 ls []) := by
    intro s0 H locs ls h Y hl
    unfold c_least_J19 at h
    refine lv_aload_n X.1 X.2.1 (dck_at da_X11_least 10 rfl) rfl (lv_at hl 0 rfl) ?_
    refine lv_iconst X.1 X.2.1 (dck_at da_X11_least 11 rfl) ki_m1 ?_
    obtain ⟨r1, s1, hc, h⟩ := gB2_some h
    refine gr_backi Y (gr_runV (as := [.int (-1 : Int32)]) (rest := []) X G Y (ok_c_refuse hc) cv_RX11_55 clC_0 ⟨Nat.le_of_ble_eq_true rfl, Nat.le_of_ble_eq_true rfl⟩ rfl hl.1 (Nat.le_of_ble_eq_true rfl) (dck_at da_X11_least 12 rfl)) (fun H locs Y => ?_)
    exact gr_iretO X Y h hr rfl hlk (dck_at da_X11_least 13 rfl)
  unfold c_least at h
  refine lv_iload_n X.1 X.2.1 (dck_at da_X11_least 0 rfl) rfl (lv_at hl 1 rfl) ?_
  refine lv_iconst X.1 X.2.1 (dck_at da_X11_least 1 rfl) ki_0 ?_
  refine lv_bipush X.1 X.2.1 (dck_at da_X11_least 2 rfl) kb_16 ?_
  obtain ⟨r2, s2, hc, h⟩ := gB2_some h
  refine gr_backi Y (gr_runS (as := [.int a1, .int (0 : Int32), .int (16 : Int32)]) (rest := []) X G Y (ok_c_isIn hc) cs_RX11_68 ⟨Nat.le_of_ble_eq_true rfl, Nat.le_of_ble_eq_true rfl⟩ rfl hl.1 (Nat.le_of_ble_eq_true rfl) (dck_at da_X11_least 3 rfl)) (fun H locs Y => ?_)
  refine lv_if_eq (tgt := 19) X.1 X.2.1 (dck_at da_X11_least 4 rfl) rfl (fun c => ?_) (fun c => ?_)
  · have h := gI_pos h c
    exact b19 s2 _ _ _ h Y (lv_sub hl [0] rfl)
  · have h := gI_neg h c
    refine lv_iload_n X.1 X.2.1 (dck_at da_X11_least 5 rfl) rfl (lv_at hl 2 rfl) ?_
    refine lv_iconst X.1 X.2.1 (dck_at da_X11_least 6 rfl) ki_0 ?_
    refine lv_iconst X.1 X.2.1 (dck_at da_X11_least 7 rfl) ki_1 ?_
    obtain ⟨r3, s3, hc, h⟩ := gB2_some h
    refine gr_backi Y (gr_runS (as := [.int a2, .int (0 : Int32), .int (1 : Int32)]) (rest := []) X G Y (ok_c_isIn hc) cs_RX11_68 ⟨Nat.le_of_ble_eq_true rfl, Nat.le_of_ble_eq_true rfl⟩ rfl hl.1 (Nat.le_of_ble_eq_true rfl) (dck_at da_X11_least 8 rfl)) (fun H locs Y => ?_)
    refine lv_if_ne (tgt := 25) X.1 X.2.1 (dck_at da_X11_least 9 rfl) rfl (fun c => ?_) (fun c => ?_)
    · have h := gI_neg h c
      refine lv_aload_n X.1 X.2.1 (dck_at da_X11_least 14 rfl) rfl (lv_at hl 0 rfl) ?_
      refine gr_getR X G Y fk_RX11_12 clC_0 rfl (dck_at da_X11_least 15 rfl) ?_
      refine gr_getR X G Y fk_RX11_196 clC_1 rfl (dck_at da_X11_least 16 rfl) ?_
      refine lv_iload_n X.1 X.2.1 (dck_at da_X11_least 17 rfl) rfl (lv_at hl 1 rfl) ?_
      obtain ⟨r4, s4, hc, h⟩ := gB2_some h
      refine gr_backi Y (gr_runV (as := [.int a1]) (rest := []) X G Y (ok_c_Door_mildest hc) cv_RX11_301 clC_32 ⟨Nat.le_of_ble_eq_true rfl, Nat.le_of_ble_eq_true rfl⟩ rfl hl.1 (Nat.le_of_ble_eq_true rfl) (dck_at da_X11_least 18 rfl)) (fun H locs Y => ?_)
      refine lv_istore_n (lv' := [(3, .int r4), (0, .ref (ad 0)), (1, .int a1), (2, .int a2)]) X.1 X.2.1 (dck_at da_X11_least 19 rfl) rfl hl (by decide) rfl (fun ls hl => ?_)
      refine lv_iload_n X.1 X.2.1 (dck_at da_X11_least 20 rfl) rfl (lv_at hl 0 rfl) ?_
      refine lv_if_ge (tgt := 48) X.1 X.2.1 (dck_at da_X11_least 21 rfl) rfl (fun c => ?_) (fun c => ?_)
      · have h := gI_pos h c
        refine lv_iload_n X.1 X.2.1 (dck_at da_X11_least 26 rfl) rfl (lv_at hl 3 rfl) ?_
        refine lv_if_ne (tgt := 56) X.1 X.2.1 (dck_at da_X11_least 27 rfl) rfl (fun c => ?_) (fun c => ?_)
        · have h := gI_neg h c
          refine lv_aload_n X.1 X.2.1 (dck_at da_X11_least 30 rfl) rfl (lv_at hl 1 rfl) ?_
          refine gr_getR X G Y fk_RX11_12 clC_0 rfl (dck_at da_X11_least 31 rfl) ?_
          refine gr_getR X G Y fk_RX11_196 clC_1 rfl (dck_at da_X11_least 32 rfl) ?_
          refine lv_iload_n X.1 X.2.1 (dck_at da_X11_least 33 rfl) rfl (lv_at hl 0 rfl) ?_
          obtain ⟨r5, s5, hc, h⟩ := gB2_some h
          refine gr_backi Y (gr_runV (as := [.int r4]) (rest := []) X G Y (ok_c_Door_shutIn hc) cv_RX11_304 clC_32 ⟨Nat.le_of_ble_eq_true rfl, Nat.le_of_ble_eq_true rfl⟩ rfl hl.1 (Nat.le_of_ble_eq_true rfl) (dck_at da_X11_least 34 rfl)) (fun H locs Y => ?_)
          exact gr_iretO X Y h hr rfl hlk (dck_at da_X11_least 35 rfl)
        · have h := gI_pos h c
          refine lv_iload_n X.1 X.2.1 (dck_at da_X11_least 28 rfl) rfl (lv_at hl 0 rfl) ?_
          refine lv_goto (tgt := 67) X.1 X.2.1 (dck_at da_X11_least 29 rfl) rfl ?_
          exact gr_iretO X Y h hr rfl hlk (dck_at da_X11_least 35 rfl)
      · have h := gI_neg h c
        refine lv_aload_n X.1 X.2.1 (dck_at da_X11_least 22 rfl) rfl (lv_at hl 1 rfl) ?_
        refine lv_bipush X.1 X.2.1 (dck_at da_X11_least 23 rfl) kb_m4 ?_
        obtain ⟨r6, s6, hc, h⟩ := gB2_some h
        refine gr_backi Y (gr_runV (as := [.int (-4 : Int32)]) (rest := []) X G Y (ok_c_refuse hc) cv_RX11_55 clC_0 ⟨Nat.le_of_ble_eq_true rfl, Nat.le_of_ble_eq_true rfl⟩ rfl hl.1 (Nat.le_of_ble_eq_true rfl) (dck_at da_X11_least 24 rfl)) (fun H locs Y => ?_)
        exact gr_iretO X Y h hr rfl hlk (dck_at da_X11_least 25 rfl)
    · have h := gI_pos h c
      exact b19 s3 _ _ _ h Y (lv_sub hl [0] rfl)
set_option maxRecDepth 100000 in
set_option maxHeartbeats 4000000 in
theorem ok_c_Net_findHouses {l : Launch} {D : va_G} {cy : Nat → ClassId} {ad sa : Nat → Nat} {A : Nat → Prop} {F : Nat}  {s0 : St} {σ' : St} (h : c_Net_findHouses F s0 = some σ') : gMv l shC D cy ad sa A yX5_findHouses cX5_findHouses 3 none 1 [.ref (ad 69), .ref (ad 2)] s0 σ' := by
  refine gM_of (by decide) (Nat.le_of_ble_eq_true rfl) ?_
  intro p e s m args below meth c ls X G Y hr hlk hl
  have hl : lv_has ls 3 [(0, .ref (ad 69)), (1, .ref (ad 2))] := hl
  have b7 : ∀ n : Nat, ∀ (x2 : Int32) (s0 : St) (H : Heap) (locs : List Loc) (ls : Array Slot), c_Net_findHouses_L7 F  n x2 s0 = some σ' → gY shC D cy ad A s0 s H locs → lv_has ls 3 [(0, .ref (ad 69)), (1, .ref (ad 2)), (2, .int x2)] → W p l e (grm 1) s m args below meth c H locs 0 0 (MQ below (va_Qv (fun (_ : Unit) => True) (fun _ t => va_P D vwCl (gWl shC cy ad σ') t.heap) A) args s 0 0 A) (F0 m 7 ls []) := by
    intro n
    induction n with
    | zero => intro x2 s0 H locs ls h Y hl; exact (gnone h).elim
    | succ n hk7 =>
      have e : c_Net_findHouses_L7 F  (n + 1) = c_Net_findHouses_L7b F  (c_Net_findHouses_L7 F  n) := rfl
      rw [e]; clear e
      generalize c_Net_findHouses_L7 F  n = k7 at hk7 ⊢
      have b51 : ∀ (x2 : Int32) (s0 : St) (H : Heap) (locs : List Loc) (ls : Array Slot), c_Net_findHouses_J51 F k7 x2 s0 = some σ' → gY shC D cy ad A s0 s H locs → lv_has ls 3 [(0, .ref (ad 69)), (1, .ref (ad 2)), (2, .int x2)] → W p l e (grm 1) s m args below meth c H locs 0 0 (MQ below (va_Qv (fun (_ : Unit) => True) (fun _ t => va_P D vwCl (gWl shC cy ad σ') t.heap) A) args s 0 0 A) (F0 m 51 ls []) := by
        intro x2 s0 H locs ls h Y hl
        unfold c_Net_findHouses_J51 at h
        refine lv_iinc (v := x2 + (1 : Int32)) (lv' := [(2, .int (x2 + (1 : Int32))), (0, .ref (ad 69)), (1, .ref (ad 2))]) X.1 X.2.1 (dck_at da_X5_findHouses 29 rfl) hl (k := 2) rfl (congrArg (HAdd.hAdd _) ki_1) (by decide) rfl (fun ls hl => ?_)
        refine lv_goto (tgt := 7) X.1 X.2.1 (dck_at da_X5_findHouses 30 rfl) rfl ?_
        exact hk7 (x2 + (1 : Int32)) s0 _ _ _ h Y (lv_sub hl [1, 2, 0] rfl)
      intro x2 s0 H locs ls h Y hl
      unfold c_Net_findHouses_L7b at h
      refine lv_iload_n X.1 X.2.1 (dck_at da_X5_findHouses 5 rfl) rfl (lv_at hl 2 rfl) ?_
      refine lv_sipush X.1 X.2.1 (dck_at da_X5_findHouses 6 rfl) ks_144 ?_
      refine lv_icmp_ge (tgt := 57) X.1 X.2.1 (dck_at da_X5_findHouses 7 rfl) rfl (fun c => ?_) (fun c => ?_)
      · have h := gI_pos h c
        exact gr_vretO X Y h hr hlk (dck_at da_X5_findHouses 31 rfl)
      · have h := gI_neg h c
        refine lv_aload_n X.1 X.2.1 (dck_at da_X5_findHouses 8 rfl) rfl (lv_at hl 0 rfl) ?_
        refine gr_getI X G Y fk_RX5_15 clC_69 rfl (dck_at da_X5_findHouses 9 rfl) ?_
        refine lv_bipush X.1 X.2.1 (dck_at da_X5_findHouses 10 rfl) kb_10 ?_
        refine lv_icmp_ge (tgt := 57) X.1 X.2.1 (dck_at da_X5_findHouses 11 rfl) rfl (fun c => ?_) (fun c => ?_)
        · have h := gI_pos h c
          exact gr_vretO X Y h hr hlk (dck_at da_X5_findHouses 31 rfl)
        · have h := gI_neg h c
          refine lv_aload_n X.1 X.2.1 (dck_at da_X5_findHouses 12 rfl) rfl (lv_at hl 1 rfl) ?_
          refine gr_getR X G Y fk_RX5_61 clC_2 rfl (dck_at da_X5_findHouses 13 rfl) ?_
          refine lv_iload_n X.1 X.2.1 (dck_at da_X5_findHouses 14 rfl) rfl (lv_at hl 2 rfl) ?_
          obtain ⟨hin, h⟩ := gI_if h
          refine gr_iald X G Y clC_3 hin (dck_at da_X5_findHouses 15 rfl) ?_
          refine lv_bipush X.1 X.2.1 (dck_at da_X5_findHouses 16 rfl) kb_7 ?_
          refine lv_icmp_ne (tgt := 51) X.1 X.2.1 (dck_at da_X5_findHouses 17 rfl) rfl (fun c => ?_) (fun c => ?_)
          · have h := gI_neg h c
            exact b51 x2 s0 _ _ _ h Y (lv_sub hl [0, 1, 2] rfl)
          · have h := gI_pos h c
            refine lv_aload_n X.1 X.2.1 (dck_at da_X5_findHouses 18 rfl) rfl (lv_at hl 0 rfl) ?_
            refine gr_getR X G Y fk_RX5_11 clC_69 rfl (dck_at da_X5_findHouses 19 rfl) ?_
            refine lv_aload_n X.1 X.2.1 (dck_at da_X5_findHouses 20 rfl) rfl (lv_at hl 0 rfl) ?_
            refine lv_dup X.1 X.2.1 (dck_at da_X5_findHouses 21 rfl) rfl ?_
            refine gr_getI X G Y fk_RX5_15 clC_69 rfl (dck_at da_X5_findHouses 22 rfl) ?_
            refine lv_dup_x1 X.1 X.2.1 (dck_at da_X5_findHouses 23 rfl) rfl rfl ?_
            refine lv_iconst X.1 X.2.1 (dck_at da_X5_findHouses 24 rfl) ki_1 ?_
            refine lv_iadd X.1 X.2.1 (dck_at da_X5_findHouses 25 rfl) ?_
            refine gr_putI X G Y fp_RX5_15 clC_69 rfl (dck_at da_X5_findHouses 26 rfl) (fun H locs Y => ?_)
            refine lv_iload_n X.1 X.2.1 (dck_at da_X5_findHouses 27 rfl) rfl (lv_at hl 2 rfl) ?_
            obtain ⟨hin, h⟩ := gI_if h
            refine gr_iast X G Y clC_70 hin (dck_at da_X5_findHouses 28 rfl) (fun H locs Y => ?_)
            exact b51 x2 (sI (sI s0 69 1 ((s0.1 69 1) + (1 : Int32))) 70 (s0.1 69 1).toNatClampNeg x2) _ _ _ h Y (lv_sub hl [0, 1, 2] rfl)
  unfold c_Net_findHouses at h
  refine lv_aload_n X.1 X.2.1 (dck_at da_X5_findHouses 0 rfl) rfl (lv_at hl 0 rfl) ?_
  refine lv_iconst X.1 X.2.1 (dck_at da_X5_findHouses 1 rfl) ki_0 ?_
  refine gr_putI X G Y fp_RX5_15 clC_69 rfl (dck_at da_X5_findHouses 2 rfl) (fun H locs Y => ?_)
  refine lv_iconst X.1 X.2.1 (dck_at da_X5_findHouses 3 rfl) ki_0 ?_
  refine lv_istore_n (lv' := [(2, .int (0 : Int32)), (0, .ref (ad 69)), (1, .ref (ad 2))]) X.1 X.2.1 (dck_at da_X5_findHouses 4 rfl) rfl hl (by decide) rfl (fun ls hl => ?_)
  exact b7 F (0 : Int32) (sI s0 69 1 (0 : Int32)) _ _ _ h Y (lv_sub hl [1, 2, 0] rfl)
set_option maxRecDepth 100000 in
set_option maxHeartbeats 4000000 in
theorem ok_c_Land_neighbour {l : Launch} {D : va_G} {cy : Nat → ClassId} {ad sa : Nat → Nat} {A : Nat → Prop} {F : Nat} {a0 : Int32} {a1 : Int32} {s0 : St} {ρ : Int32} {σ' : St} (h : c_Land_neighbour F a0 a1 s0 = some (ρ, σ')) : gMi l shC D cy ad sa A yX3_neighbour cX3_neighbour 4 (some .int) 2 [.int a0, .int a1] s0 ρ σ' := by
  refine gM_of (by decide) (Nat.le_of_ble_eq_true rfl) ?_
  intro p e s m args below meth c ls X G Y hr hlk hl
  have hl : lv_has ls 4 [(0, .int a0), (1, .int a1)] := hl
  have b51 : ∀  (s0 : St) (H : Heap) (locs : List Loc) (ls : Array Slot), c_Land_neighbour_J51 F  s0 = some (ρ, σ') → gY shC D cy ad A s0 s H locs → lv_has ls 4 [] → W p l e (grm 2) s m args below meth c H locs 0 0 (MQ below (va_Qi (fun (q : Int32) (_ : Unit) => q = ρ) (fun _ t => va_P D vwCl (gWl shC cy ad σ') t.heap) A) args s 0 0 A) (F0 m 51 ls []) := by
    intro s0 H locs ls h Y hl
    unfold c_Land_neighbour_J51 at h
    refine lv_iconst X.1 X.2.1 (dck_at da_X3_neighbour 36 rfl) ki_m1 ?_
    exact gr_iretO X Y h hr rfl hlk (dck_at da_X3_neighbour 37 rfl)
  unfold c_Land_neighbour at h
  refine lv_iload_n X.1 X.2.1 (dck_at da_X3_neighbour 0 rfl) rfl (lv_at hl 0 rfl) ?_
  refine lv_bipush X.1 X.2.1 (dck_at da_X3_neighbour 1 rfl) kb_12 ?_
  refine lv_idiv X.1 X.2.1 (dck_at da_X3_neighbour 2 rfl) (by decide) ?_
  refine lv_iload_n X.1 X.2.1 (dck_at da_X3_neighbour 3 rfl) rfl (lv_at hl 1 rfl) ?_
  refine lv_iconst X.1 X.2.1 (dck_at da_X3_neighbour 4 rfl) ki_3 ?_
  refine lv_idiv X.1 X.2.1 (dck_at da_X3_neighbour 5 rfl) (by decide) ?_
  refine lv_iadd X.1 X.2.1 (dck_at da_X3_neighbour 6 rfl) ?_
  refine lv_iconst X.1 X.2.1 (dck_at da_X3_neighbour 7 rfl) ki_1 ?_
  refine lv_isub X.1 X.2.1 (dck_at da_X3_neighbour 8 rfl) ?_
  refine lv_istore_n (lv' := [(2, .int (((a0 / (12 : Int32)) + (a1 / (3 : Int32))) - (1 : Int32))), (0, .int a0), (1, .int a1)]) X.1 X.2.1 (dck_at da_X3_neighbour 9 rfl) rfl hl (by decide) rfl (fun ls hl => ?_)
  refine lv_iload_n X.1 X.2.1 (dck_at da_X3_neighbour 10 rfl) rfl (lv_at hl 1 rfl) ?_
  refine lv_bipush X.1 X.2.1 (dck_at da_X3_neighbour 11 rfl) kb_12 ?_
  refine lv_irem X.1 X.2.1 (dck_at da_X3_neighbour 12 rfl) (by decide) ?_
  refine lv_iload_n X.1 X.2.1 (dck_at da_X3_neighbour 13 rfl) rfl (lv_at hl 2 rfl) ?_
  refine lv_iconst X.1 X.2.1 (dck_at da_X3_neighbour 14 rfl) ki_3 ?_
  refine lv_irem X.1 X.2.1 (dck_at da_X3_neighbour 15 rfl) (by decide) ?_
  refine lv_iadd X.1 X.2.1 (dck_at da_X3_neighbour 16 rfl) ?_
  refine lv_iconst X.1 X.2.1 (dck_at da_X3_neighbour 17 rfl) ki_1 ?_
  refine lv_isub X.1 X.2.1 (dck_at da_X3_neighbour 18 rfl) ?_
  refine lv_istore_n (lv' := [(3, .int (((a0 - a0 / (12 : Int32) * (12 : Int32)) + (a1 - a1 / (3 : Int32) * (3 : Int32))) - (1 : Int32))), (2, .int (((a0 / (12 : Int32)) + (a1 / (3 : Int32))) - (1 : Int32))), (0, .int a0), (1, .int a1)]) X.1 X.2.1 (dck_at da_X3_neighbour 19 rfl) rfl hl (by decide) rfl (fun ls hl => ?_)
  refine lv_iload_n X.1 X.2.1 (dck_at da_X3_neighbour 20 rfl) rfl (lv_at hl 1 rfl) ?_
  refine lv_iconst X.1 X.2.1 (dck_at da_X3_neighbour 21 rfl) ki_0 ?_
  refine lv_bipush X.1 X.2.1 (dck_at da_X3_neighbour 22 rfl) kb_11 ?_
  obtain ⟨r1, s1, hc, h⟩ := gB2_some h
  refine gr_backi Y (gr_runN (as := [.int (((a0 / (12 : Int32)) + (a1 / (3 : Int32))) - (1 : Int32)), .int (0 : Int32), .int (11 : Int32)]) (rest := []) X G Y (ok_c_isIn hc) cn_RX3_41 ⟨Nat.le_of_ble_eq_true rfl, Nat.le_of_ble_eq_true rfl⟩ rfl hl.1 (Nat.le_of_ble_eq_true rfl) (dck_at da_X3_neighbour 23 rfl)) (fun H locs Y => ?_)
  refine lv_if_eq (tgt := 51) X.1 X.2.1 (dck_at da_X3_neighbour 24 rfl) rfl (fun c => ?_) (fun c => ?_)
  · have h := gI_pos h c
    exact b51 s1 _ _ _ h Y (lv_sub hl [] rfl)
  · have h := gI_neg h c
    refine lv_iload_n X.1 X.2.1 (dck_at da_X3_neighbour 25 rfl) rfl (lv_at hl 0 rfl) ?_
    refine lv_iconst X.1 X.2.1 (dck_at da_X3_neighbour 26 rfl) ki_0 ?_
    refine lv_bipush X.1 X.2.1 (dck_at da_X3_neighbour 27 rfl) kb_11 ?_
    obtain ⟨r2, s2, hc, h⟩ := gB2_some h
    refine gr_backi Y (gr_runN (as := [.int (((a0 - a0 / (12 : Int32) * (12 : Int32)) + (a1 - a1 / (3 : Int32) * (3 : Int32))) - (1 : Int32)), .int (0 : Int32), .int (11 : Int32)]) (rest := []) X G Y (ok_c_isIn hc) cn_RX3_41 ⟨Nat.le_of_ble_eq_true rfl, Nat.le_of_ble_eq_true rfl⟩ rfl hl.1 (Nat.le_of_ble_eq_true rfl) (dck_at da_X3_neighbour 28 rfl)) (fun H locs Y => ?_)
    refine lv_if_eq (tgt := 51) X.1 X.2.1 (dck_at da_X3_neighbour 29 rfl) rfl (fun c => ?_) (fun c => ?_)
    · have h := gI_pos h c
      exact b51 s2 _ _ _ h Y (lv_sub hl [] rfl)
    · have h := gI_neg h c
      refine lv_iload_n X.1 X.2.1 (dck_at da_X3_neighbour 30 rfl) rfl (lv_at hl 1 rfl) ?_
      refine lv_bipush X.1 X.2.1 (dck_at da_X3_neighbour 31 rfl) kb_12 ?_
      refine lv_imul X.1 X.2.1 (dck_at da_X3_neighbour 32 rfl) ?_
      refine lv_iload_n X.1 X.2.1 (dck_at da_X3_neighbour 33 rfl) rfl (lv_at hl 0 rfl) ?_
      refine lv_iadd X.1 X.2.1 (dck_at da_X3_neighbour 34 rfl) ?_
      refine lv_goto (tgt := 52) X.1 X.2.1 (dck_at da_X3_neighbour 35 rfl) rfl ?_
      exact gr_iretO X Y h hr rfl hlk (dck_at da_X3_neighbour 37 rfl)
set_option maxRecDepth 100000 in
set_option maxHeartbeats 4000000 in
theorem ok_c_Net_hear {l : Launch} {D : va_G} {cy : Nat → ClassId} {ad sa : Nat → Nat} {A : Nat → Prop} {F : Nat} {a2 : Int32} {s0 : St} {ρ : Int64} {σ' : St} (h : c_Net_hear F a2 s0 = some (ρ, σ')) : gMl l shC D cy ad sa A yX5_hear cX5_hear 7 (some .long) 3 [.ref (ad 69), .ref (ad 9), .int a2] s0 ρ σ' := by
  refine gM_of (by decide) (Nat.le_of_ble_eq_true rfl) ?_
  intro p e s m args below meth c ls X G Y hr hlk hl
  have hl : lv_has ls 7 [(0, .ref (ad 69)), (1, .ref (ad 9)), (2, .int a2)] := hl
  have b5 : ∀ n : Nat, ∀ (x2 : Int32) (x3 : Int64) (x5 : Int32) (s0 : St) (H : Heap) (locs : List Loc) (ls : Array Slot), c_Net_hear_L5 F  n x2 x3 x5 s0 = some (ρ, σ') → gY shC D cy ad A s0 s H locs → lv_has ls 7 [(0, .ref (ad 69)), (1, .ref (ad 9)), (2, .int x2), (3, .long x3), (5, .int x5)] → W p l e (grm 3) s m args below meth c H locs 0 0 (MQ below (va_Ql (fun (q : Int64) (_ : Unit) => q = ρ) (fun _ t => va_P D vwCl (gWl shC cy ad σ') t.heap) A) args s 0 0 A) (F0 m 5 ls []) := by
    intro n
    induction n with
    | zero => intro x2 x3 x5 s0 H locs ls h Y hl; exact (gnone h).elim
    | succ n hk5 =>
      have e : c_Net_hear_L5 F  (n + 1) = c_Net_hear_L5b F  (c_Net_hear_L5 F  n) := rfl
      rw [e]; clear e
      generalize c_Net_hear_L5 F  n = k5 at hk5 ⊢
      have b49 : ∀ (x2 : Int32) (x3 : Int64) (x5 : Int32) (s0 : St) (H : Heap) (locs : List Loc) (ls : Array Slot), c_Net_hear_J49 F k5 x2 x3 x5 s0 = some (ρ, σ') → gY shC D cy ad A s0 s H locs → lv_has ls 7 [(0, .ref (ad 69)), (1, .ref (ad 9)), (2, .int x2), (3, .long x3), (5, .int x5)] → W p l e (grm 3) s m args below meth c H locs 0 0 (MQ below (va_Ql (fun (q : Int64) (_ : Unit) => q = ρ) (fun _ t => va_P D vwCl (gWl shC cy ad σ') t.heap) A) args s 0 0 A) (F0 m 49 ls []) := by
        intro x2 x3 x5 s0 H locs ls h Y hl
        unfold c_Net_hear_J49 at h
        refine lv_iinc (v := x5 + (1 : Int32)) (lv' := [(5, .int (x5 + (1 : Int32))), (0, .ref (ad 69)), (1, .ref (ad 9)), (2, .int x2), (3, .long x3)]) X.1 X.2.1 (dck_at da_X5_hear 29 rfl) hl (k := 4) rfl (congrArg (HAdd.hAdd _) ki_1) (by decide) rfl (fun ls hl => ?_)
        refine lv_goto (tgt := 5) X.1 X.2.1 (dck_at da_X5_hear 30 rfl) rfl ?_
        exact hk5 x2 x3 (x5 + (1 : Int32)) s0 _ _ _ h Y (lv_sub hl [1, 2, 3, 4, 0] rfl)
      intro x2 x3 x5 s0 H locs ls h Y hl
      unfold c_Net_hear_L5b at h
      refine lv_iload X.1 X.2.1 (dck_at da_X5_hear 4 rfl) (lv_at hl 4 rfl) ?_
      refine lv_bipush X.1 X.2.1 (dck_at da_X5_hear 5 rfl) kb_9 ?_
      refine lv_icmp_ge (tgt := 55) X.1 X.2.1 (dck_at da_X5_hear 6 rfl) rfl (fun c => ?_) (fun c => ?_)
      · have h := gI_pos h c
        refine lv_lload_n X.1 X.2.1 (dck_at da_X5_hear 31 rfl) rfl (lv_at hl 3 rfl) ?_
        exact gr_lretO X Y h hr hlk (dck_at da_X5_hear 32 rfl)
      · have h := gI_neg h c
        refine lv_iload_n X.1 X.2.1 (dck_at da_X5_hear 7 rfl) rfl (lv_at hl 2 rfl) ?_
        refine lv_iload X.1 X.2.1 (dck_at da_X5_hear 8 rfl) (lv_at hl 4 rfl) ?_
        obtain ⟨r1, s1, hc, h⟩ := gB2_some h
        refine gr_backi Y (gr_runS (as := [.int x2, .int x5]) (rest := []) X G Y (ok_c_Land_neighbour hc) cs_RX5_80 ⟨Nat.le_of_ble_eq_true rfl, Nat.le_of_ble_eq_true rfl⟩ rfl hl.1 (Nat.le_of_ble_eq_true rfl) (dck_at da_X5_hear 9 rfl)) (fun H locs Y => ?_)
        refine lv_istore (lv' := [(6, .int r1), (0, .ref (ad 69)), (1, .ref (ad 9)), (2, .int x2), (3, .long x3), (5, .int x5)]) X.1 X.2.1 (dck_at da_X5_hear 10 rfl) hl (by decide) rfl (fun ls hl => ?_)
        refine lv_iload X.1 X.2.1 (dck_at da_X5_hear 11 rfl) (lv_at hl 0 rfl) ?_
        refine lv_if_lt (tgt := 49) X.1 X.2.1 (dck_at da_X5_hear 12 rfl) rfl (fun c => ?_) (fun c => ?_)
        · have h := gI_pos h c
          exact b49 x2 x3 x5 s1 _ _ _ h Y (lv_sub hl [1, 2, 3, 4, 5] rfl)
        · have h := gI_neg h c
          refine lv_aload_n X.1 X.2.1 (dck_at da_X5_hear 13 rfl) rfl (lv_at hl 1 rfl) ?_
          refine gr_getR X G Y fk_RX5_19 clC_69 rfl (dck_at da_X5_hear 14 rfl) ?_
          refine lv_iload X.1 X.2.1 (dck_at da_X5_hear 15 rfl) (lv_at hl 0 rfl) ?_
          refine lv_dup2_11 X.1 X.2.1 (dck_at da_X5_hear 16 rfl) rfl rfl ?_
          obtain ⟨hin, h⟩ := gI_if h
          refine gr_iald X G Y clC_71 hin (dck_at da_X5_hear 17 rfl) ?_
          refine lv_dup_x2 X.1 X.2.1 (dck_at da_X5_hear 18 rfl) rfl rfl rfl ?_
          refine lv_iconst X.1 X.2.1 (dck_at da_X5_hear 19 rfl) ki_1 ?_
          refine lv_iadd X.1 X.2.1 (dck_at da_X5_hear 20 rfl) ?_
          obtain ⟨hin, h⟩ := gI_if h
          refine gr_iast X G Y clC_71 hin (dck_at da_X5_hear 21 rfl) (fun H locs Y => ?_)
          refine lv_if_ne (tgt := 49) X.1 X.2.1 (dck_at da_X5_hear 22 rfl) rfl (fun c => ?_) (fun c => ?_)
          · have h := gI_neg h c
            exact b49 x2 x3 x5 (sI s1 71 (r1).toNatClampNeg ((s1.1 71 (r1).toNatClampNeg) + (1 : Int32))) _ _ _ h Y (lv_sub hl [1, 2, 3, 4, 5] rfl)
          · have h := gI_pos h c
            refine lv_lload_n X.1 X.2.1 (dck_at da_X5_hear 23 rfl) rfl (lv_at hl 4 rfl) ?_
            refine lv_aload_n X.1 X.2.1 (dck_at da_X5_hear 24 rfl) rfl (lv_at hl 2 rfl) ?_
            refine lv_iload X.1 X.2.1 (dck_at da_X5_hear 25 rfl) (lv_at hl 0 rfl) ?_
            obtain ⟨r2, s2, hc, h⟩ := gB2_some h
            refine gr_backl Y (gr_runV (as := [.int r1]) (rest := [.long x3]) X G Y (ok_c_Night_together hc) cv_RX5_83 clC_9 ⟨Nat.le_of_ble_eq_true rfl, Nat.le_of_ble_eq_true rfl⟩ rfl hl.1 (Nat.le_of_ble_eq_true rfl) (dck_at da_X5_hear 26 rfl)) (fun H locs Y => ?_)
            refine lv_ladd X.1 X.2.1 (dck_at da_X5_hear 27 rfl) ?_
            refine lv_lstore_n (lv' := [(3, .long (x3 + r2)), (6, .int r1), (0, .ref (ad 69)), (1, .ref (ad 9)), (2, .int x2), (5, .int x5)]) X.1 X.2.1 (dck_at da_X5_hear 28 rfl) rfl hl (by decide) rfl (fun ls hl => ?_)
            exact b49 x2 (x3 + r2) x5 s2 _ _ _ h Y (lv_sub hl [2, 3, 4, 0, 5] rfl)
  unfold c_Net_hear at h
  refine lv_lconst (v := 0) X.1 X.2.1 (dck_at da_X5_hear 0 rfl) rfl ?_
  refine lv_lstore_n (lv' := [(3, .long (0 : Int64)), (0, .ref (ad 69)), (1, .ref (ad 9)), (2, .int a2)]) X.1 X.2.1 (dck_at da_X5_hear 1 rfl) rfl hl (by decide) rfl (fun ls hl => ?_)
  refine lv_iconst X.1 X.2.1 (dck_at da_X5_hear 2 rfl) ki_0 ?_
  refine lv_istore (lv' := [(5, .int (0 : Int32)), (3, .long (0 : Int64)), (0, .ref (ad 69)), (1, .ref (ad 9)), (2, .int a2)]) X.1 X.2.1 (dck_at da_X5_hear 3 rfl) hl (by decide) rfl (fun ls hl => ?_)
  exact b5 F a2 (0 : Int64) (0 : Int32) s0 _ _ _ h Y (lv_sub hl [2, 3, 4, 1, 0] rfl)
set_option maxRecDepth 100000 in
set_option maxHeartbeats 4000000 in
theorem ok_c_Net_forget {l : Launch} {D : va_G} {cy : Nat → ClassId} {ad sa : Nat → Nat} {A : Nat → Prop} {F : Nat} {a1 : Int32} {s0 : St} {σ' : St} (h : c_Net_forget F a1 s0 = some σ') : gMv l shC D cy ad sa A yX5_forget cX5_forget 4 none 3 [.ref (ad 69), .int a1] s0 σ' := by
  refine gM_of (by decide) (Nat.le_of_ble_eq_true rfl) ?_
  intro p e s m args below meth c ls X G Y hr hlk hl
  have hl : lv_has ls 4 [(0, .ref (ad 69)), (1, .int a1)] := hl
  have b2 : ∀ n : Nat, ∀ (x1 : Int32) (x2 : Int32) (s0 : St) (H : Heap) (locs : List Loc) (ls : Array Slot), c_Net_forget_L2 F  n x1 x2 s0 = some σ' → gY shC D cy ad A s0 s H locs → lv_has ls 4 [(0, .ref (ad 69)), (1, .int x1), (2, .int x2)] → W p l e (grm 3) s m args below meth c H locs 0 0 (MQ below (va_Qv (fun (_ : Unit) => True) (fun _ t => va_P D vwCl (gWl shC cy ad σ') t.heap) A) args s 0 0 A) (F0 m 2 ls []) := by
    intro n
    induction n with
    | zero => intro x1 x2 s0 H locs ls h Y hl; exact (gnone h).elim
    | succ n hk2 =>
      have e : c_Net_forget_L2 F  (n + 1) = c_Net_forget_L2b F  (c_Net_forget_L2 F  n) := rfl
      rw [e]; clear e
      generalize c_Net_forget_L2 F  n = k2 at hk2 ⊢
      have b28 : ∀ (x1 : Int32) (x2 : Int32) (s0 : St) (H : Heap) (locs : List Loc) (ls : Array Slot), c_Net_forget_J28 F k2 x1 x2 s0 = some σ' → gY shC D cy ad A s0 s H locs → lv_has ls 4 [(0, .ref (ad 69)), (1, .int x1), (2, .int x2)] → W p l e (grm 3) s m args below meth c H locs 0 0 (MQ below (va_Qv (fun (_ : Unit) => True) (fun _ t => va_P D vwCl (gWl shC cy ad σ') t.heap) A) args s 0 0 A) (F0 m 28 ls []) := by
        intro x1 x2 s0 H locs ls h Y hl
        unfold c_Net_forget_J28 at h
        refine lv_iinc (v := x2 + (1 : Int32)) (lv' := [(2, .int (x2 + (1 : Int32))), (0, .ref (ad 69)), (1, .int x1)]) X.1 X.2.1 (dck_at da_X5_forget 19 rfl) hl (k := 2) rfl (congrArg (HAdd.hAdd _) ki_1) (by decide) rfl (fun ls hl => ?_)
        refine lv_goto (tgt := 2) X.1 X.2.1 (dck_at da_X5_forget 20 rfl) rfl ?_
        exact hk2 x1 (x2 + (1 : Int32)) s0 _ _ _ h Y (lv_sub hl [1, 2, 0] rfl)
      intro x1 x2 s0 H locs ls h Y hl
      unfold c_Net_forget_L2b at h
      refine lv_iload_n X.1 X.2.1 (dck_at da_X5_forget 2 rfl) rfl (lv_at hl 2 rfl) ?_
      refine lv_bipush X.1 X.2.1 (dck_at da_X5_forget 3 rfl) kb_9 ?_
      refine lv_icmp_ge (tgt := 34) X.1 X.2.1 (dck_at da_X5_forget 4 rfl) rfl (fun c => ?_) (fun c => ?_)
      · have h := gI_pos h c
        exact gr_vretO X Y h hr hlk (dck_at da_X5_forget 21 rfl)
      · have h := gI_neg h c
        refine lv_iload_n X.1 X.2.1 (dck_at da_X5_forget 5 rfl) rfl (lv_at hl 1 rfl) ?_
        refine lv_iload_n X.1 X.2.1 (dck_at da_X5_forget 6 rfl) rfl (lv_at hl 2 rfl) ?_
        obtain ⟨r1, s1, hc, h⟩ := gB2_some h
        refine gr_backi Y (gr_runS (as := [.int x1, .int x2]) (rest := []) X G Y (ok_c_Land_neighbour hc) cs_RX5_80 ⟨Nat.le_of_ble_eq_true rfl, Nat.le_of_ble_eq_true rfl⟩ rfl hl.1 (Nat.le_of_ble_eq_true rfl) (dck_at da_X5_forget 7 rfl)) (fun H locs Y => ?_)
        refine lv_istore_n (lv' := [(3, .int r1), (0, .ref (ad 69)), (1, .int x1), (2, .int x2)]) X.1 X.2.1 (dck_at da_X5_forget 8 rfl) rfl hl (by decide) rfl (fun ls hl => ?_)
        refine lv_iload_n X.1 X.2.1 (dck_at da_X5_forget 9 rfl) rfl (lv_at hl 0 rfl) ?_
        refine lv_if_lt (tgt := 28) X.1 X.2.1 (dck_at da_X5_forget 10 rfl) rfl (fun c => ?_) (fun c => ?_)
        · have h := gI_pos h c
          exact b28 x1 x2 s1 _ _ _ h Y (lv_sub hl [1, 2, 3] rfl)
        · have h := gI_neg h c
          refine lv_aload_n X.1 X.2.1 (dck_at da_X5_forget 11 rfl) rfl (lv_at hl 1 rfl) ?_
          refine gr_getR X G Y fk_RX5_19 clC_69 rfl (dck_at da_X5_forget 12 rfl) ?_
          refine lv_iload_n X.1 X.2.1 (dck_at da_X5_forget 13 rfl) rfl (lv_at hl 0 rfl) ?_
          refine lv_dup2_11 X.1 X.2.1 (dck_at da_X5_forget 14 rfl) rfl rfl ?_
          obtain ⟨hin, h⟩ := gI_if h
          refine gr_iald X G Y clC_71 hin (dck_at da_X5_forget 15 rfl) ?_
          refine lv_iconst X.1 X.2.1 (dck_at da_X5_forget 16 rfl) ki_1 ?_
          refine lv_isub X.1 X.2.1 (dck_at da_X5_forget 17 rfl) ?_
          obtain ⟨hin, h⟩ := gI_if h
          refine gr_iast X G Y clC_71 hin (dck_at da_X5_forget 18 rfl) (fun H locs Y => ?_)
          exact b28 x1 x2 (sI s1 71 (r1).toNatClampNeg ((s1.1 71 (r1).toNatClampNeg) - (1 : Int32))) _ _ _ h Y (lv_sub hl [1, 2, 3] rfl)
  unfold c_Net_forget at h
  refine lv_iconst X.1 X.2.1 (dck_at da_X5_forget 0 rfl) ki_0 ?_
  refine lv_istore_n (lv' := [(2, .int (0 : Int32)), (0, .ref (ad 69)), (1, .int a1)]) X.1 X.2.1 (dck_at da_X5_forget 1 rfl) rfl hl (by decide) rfl (fun ls hl => ?_)
  exact b2 F a1 (0 : Int32) s0 _ _ _ h Y (lv_sub hl [1, 2, 0] rfl)
set_option maxRecDepth 100000 in
set_option maxHeartbeats 4000000 in
theorem ok_c_Net_tell_r {l : Launch} {D : va_G} {cy : Nat → ClassId} {ad sa : Nat → Nat} {A : Nat → Prop} {F : Nat} : ∀ (n : Nat) (a2 : Int32) (a3 : Int32) (a4 : Int64) (s0 : St) (σ' : St), c_Net_tell F n a2 a3 a4 s0 = some σ' → gMv l shC D cy ad sa A yX5_tell cX5_tell 9 none (4 + n) [.ref (ad 69), .ref (ad 9), .int a2, .int a3, .long a4] s0 σ' := by
  intro n
  induction n
  case zero =>
    intro a2 a3 a4 s0 σ' h
    exact (gnone h).elim
  rename_i N ih
  intro a2 a3 a4 s0 σ' h
  have e : c_Net_tell F (N + 1) = c_Net_tell_b F (c_Net_tell F N) := rfl
  rw [e] at h; clear e
  generalize c_Net_tell F N = self at h ih
  refine gM_of (by decide) (Nat.le_of_ble_eq_true rfl) ?_
  intro p e s m args below meth c ls X G Y hr hlk hl
  have hl : lv_has ls 9 [(0, .ref (ad 69)), (1, .ref (ad 9)), (2, .int a2), (3, .int a3), (4, .long a4)] := hl
  have b42 : ∀ n : Nat, ∀ (x2 : Int32) (x4 : Int64) (x6 : Int32) (s0 : St) (H : Heap) (locs : List Loc) (ls : Array Slot), c_Net_tell_L42 F self  n x2 x4 x6 s0 = some σ' → gY shC D cy ad A s0 s H locs → lv_has ls 9 [(0, .ref (ad 69)), (1, .ref (ad 9)), (2, .int x2), (4, .long x4), (6, .int x6)] → W p l e (grm (4 + (N + 1))) s m args below meth c H locs 0 0 (MQ below (va_Qv (fun (_ : Unit) => True) (fun _ t => va_P D vwCl (gWl shC cy ad σ') t.heap) A) args s 0 0 A) (F0 m 42 ls []) := by
    intro n
    induction n with
    | zero => intro x2 x4 x6 s0 H locs ls h Y hl; exact (gnone h).elim
    | succ n hk42 =>
      have e : c_Net_tell_L42 F self  (n + 1) = c_Net_tell_L42b F self  (c_Net_tell_L42 F self  n) := rfl
      rw [e]; clear e
      generalize c_Net_tell_L42 F self  n = k42 at hk42 ⊢
      intro x2 x4 x6 s0 H locs ls h Y hl
      unfold c_Net_tell_L42b at h
      refine lv_iload X.1 X.2.1 (dck_at da_X5_tell 23 rfl) (lv_at hl 4 rfl) ?_
      refine lv_aload_n X.1 X.2.1 (dck_at da_X5_tell 24 rfl) rfl (lv_at hl 0 rfl) ?_
      refine gr_getI X G Y fk_RX5_15 clC_69 rfl (dck_at da_X5_tell 25 rfl) ?_
      refine lv_icmp_ge (tgt := 112) X.1 X.2.1 (dck_at da_X5_tell 26 rfl) rfl (fun c => ?_) (fun c => ?_)
      · have h := gI_pos h c
        exact gr_vretO X Y h hr hlk (dck_at da_X5_tell 63 rfl)
      · have h := gI_neg h c
        refine lv_aload_n X.1 X.2.1 (dck_at da_X5_tell 27 rfl) rfl (lv_at hl 0 rfl) ?_
        refine gr_getR X G Y fk_RX5_22 clC_69 rfl (dck_at da_X5_tell 28 rfl) ?_
        refine lv_iload_n X.1 X.2.1 (dck_at da_X5_tell 29 rfl) rfl (lv_at hl 2 rfl) ?_
        refine lv_aload_n X.1 X.2.1 (dck_at da_X5_tell 30 rfl) rfl (lv_at hl 0 rfl) ?_
        refine gr_getR X G Y fk_RX5_11 clC_69 rfl (dck_at da_X5_tell 31 rfl) ?_
        refine lv_iload X.1 X.2.1 (dck_at da_X5_tell 32 rfl) (lv_at hl 4 rfl) ?_
        obtain ⟨hin, h⟩ := gI_if h
        refine gr_iald X G Y clC_70 hin (dck_at da_X5_tell 33 rfl) ?_
        obtain ⟨hin, h⟩ := gI_if h
        refine gr_iast X G Y clC_72 hin (dck_at da_X5_tell 34 rfl) (fun H locs Y => ?_)
        refine lv_aload_n X.1 X.2.1 (dck_at da_X5_tell 35 rfl) rfl (lv_at hl 0 rfl) ?_
        refine lv_aload_n X.1 X.2.1 (dck_at da_X5_tell 36 rfl) rfl (lv_at hl 1 rfl) ?_
        refine lv_aload_n X.1 X.2.1 (dck_at da_X5_tell 37 rfl) rfl (lv_at hl 0 rfl) ?_
        refine gr_getR X G Y fk_RX5_11 clC_69 rfl (dck_at da_X5_tell 38 rfl) ?_
        refine lv_iload X.1 X.2.1 (dck_at da_X5_tell 39 rfl) (lv_at hl 4 rfl) ?_
        obtain ⟨hin, h⟩ := gI_if h
        refine gr_iald X G Y clC_70 hin (dck_at da_X5_tell 40 rfl) ?_
        obtain ⟨r1, s1, hc, h⟩ := gB2_some h
        refine gr_backl Y (gr_runV (as := [.ref (ad 9), .int ((sI s0 72 (x2).toNatClampNeg (s0.1 70 (x6).toNatClampNeg)).1 70 (x6).toNatClampNeg)]) (rest := []) X G Y (ok_c_Net_hear hc) cv_RX5_72 clC_69 (by constructor <;> simp only [grm] <;> omega) rfl hl.1 (Nat.le_of_ble_eq_true rfl) (dck_at da_X5_tell 41 rfl)) (fun H locs Y => ?_)
        refine lv_lstore (lv' := [(7, .long r1), (0, .ref (ad 69)), (1, .ref (ad 9)), (2, .int x2), (4, .long x4), (6, .int x6)]) X.1 X.2.1 (dck_at da_X5_tell 42 rfl) hl (by decide) rfl (fun ls hl => ?_)
        refine lv_aload_n X.1 X.2.1 (dck_at da_X5_tell 43 rfl) rfl (lv_at hl 1 rfl) ?_
        refine lv_aload_n X.1 X.2.1 (dck_at da_X5_tell 44 rfl) rfl (lv_at hl 2 rfl) ?_
        refine lv_iload_n X.1 X.2.1 (dck_at da_X5_tell 45 rfl) rfl (lv_at hl 3 rfl) ?_
        refine lv_iconst X.1 X.2.1 (dck_at da_X5_tell 46 rfl) ki_1 ?_
        refine lv_iadd X.1 X.2.1 (dck_at da_X5_tell 47 rfl) ?_
        refine lv_iload X.1 X.2.1 (dck_at da_X5_tell 48 rfl) (lv_at hl 5 rfl) ?_
        refine lv_iconst X.1 X.2.1 (dck_at da_X5_tell 49 rfl) ki_1 ?_
        refine lv_iadd X.1 X.2.1 (dck_at da_X5_tell 50 rfl) ?_
        refine lv_lload X.1 X.2.1 (dck_at da_X5_tell 51 rfl) (lv_at hl 4 rfl) ?_
        refine lv_lload X.1 X.2.1 (dck_at da_X5_tell 52 rfl) (lv_at hl 0 rfl) ?_
        refine lv_ladd X.1 X.2.1 (dck_at da_X5_tell 53 rfl) ?_
        obtain ⟨s2, hc, h⟩ := gB_some h
        refine gr_backv Y (gr_runV (as := [.ref (ad 9), .int (x2 + (1 : Int32)), .int (x6 + (1 : Int32)), .long (x4 + r1)]) (rest := []) X G Y (ih (x2 + (1 : Int32)) (x6 + (1 : Int32)) (x4 + r1) s1 _ hc) cv_RX5_57 clC_69 (by constructor <;> simp only [grm] <;> omega) rfl hl.1 (Nat.le_of_ble_eq_true rfl) (dck_at da_X5_tell 54 rfl)) (fun H locs Y => ?_)
        refine lv_aload_n X.1 X.2.1 (dck_at da_X5_tell 55 rfl) rfl (lv_at hl 1 rfl) ?_
        refine lv_aload_n X.1 X.2.1 (dck_at da_X5_tell 56 rfl) rfl (lv_at hl 1 rfl) ?_
        refine gr_getR X G Y fk_RX5_11 clC_69 rfl (dck_at da_X5_tell 57 rfl) ?_
        refine lv_iload X.1 X.2.1 (dck_at da_X5_tell 58 rfl) (lv_at hl 5 rfl) ?_
        obtain ⟨hin, h⟩ := gI_if h
        refine gr_iald X G Y clC_70 hin (dck_at da_X5_tell 59 rfl) ?_
        obtain ⟨s3, hc, h⟩ := gB_some h
        refine gr_backv Y (gr_runV (as := [.int (s2.1 70 (x6).toNatClampNeg)]) (rest := []) X G Y (ok_c_Net_forget hc) cv_RX5_76 clC_69 (by constructor <;> simp only [grm] <;> omega) rfl hl.1 (Nat.le_of_ble_eq_true rfl) (dck_at da_X5_tell 60 rfl)) (fun H locs Y => ?_)
        refine lv_iinc (v := x6 + (1 : Int32)) (lv' := [(6, .int (x6 + (1 : Int32))), (7, .long r1), (0, .ref (ad 69)), (1, .ref (ad 9)), (2, .int x2), (4, .long x4)]) X.1 X.2.1 (dck_at da_X5_tell 61 rfl) hl (k := 5) rfl (congrArg (HAdd.hAdd _) ki_1) (by decide) rfl (fun ls hl => ?_)
        refine lv_goto (tgt := 42) X.1 X.2.1 (dck_at da_X5_tell 62 rfl) rfl ?_
        exact hk42 x2 x4 (x6 + (1 : Int32)) s3 _ _ _ h Y (lv_sub hl [2, 3, 4, 5, 0] rfl)
  unfold c_Net_tell_b at h
  refine lv_iload_n X.1 X.2.1 (dck_at da_X5_tell 0 rfl) rfl (lv_at hl 2 rfl) ?_
  refine lv_aload_n X.1 X.2.1 (dck_at da_X5_tell 1 rfl) rfl (lv_at hl 0 rfl) ?_
  refine gr_getI X G Y fk_RX5_25 clC_69 rfl (dck_at da_X5_tell 2 rfl) ?_
  refine lv_icmp_lt (tgt := 39) X.1 X.2.1 (dck_at da_X5_tell 3 rfl) rfl (fun c => ?_) (fun c => ?_)
  · have h := gI_pos h c
    refine lv_iload_n X.1 X.2.1 (dck_at da_X5_tell 21 rfl) rfl (lv_at hl 3 rfl) ?_
    refine lv_istore (lv' := [(6, .int a3), (0, .ref (ad 69)), (1, .ref (ad 9)), (2, .int a2), (3, .int a3), (4, .long a4)]) X.1 X.2.1 (dck_at da_X5_tell 22 rfl) hl (by decide) rfl (fun ls hl => ?_)
    exact b42 F a2 a4 a3 s0 _ _ _ h Y (lv_sub hl [1, 2, 3, 5, 0] rfl)
  · have h := gI_neg h c
    refine lv_lload X.1 X.2.1 (dck_at da_X5_tell 4 rfl) (lv_at hl 4 rfl) ?_
    refine lv_aload_n X.1 X.2.1 (dck_at da_X5_tell 5 rfl) rfl (lv_at hl 0 rfl) ?_
    refine gr_getJ X G Y fk_RX5_31 clC_69 rfl (dck_at da_X5_tell 6 rfl) ?_
    refine W.lcmp X.1 X.2.1 (dck_at da_X5_tell 7 rfl) ?_
    refine lv_if_le (tgt := 38) X.1 X.2.1 (dck_at da_X5_tell 8 rfl) rfl (fun c => ?_) (fun c => ?_)
    · have h := gI_pos h c
      exact gr_vretO X Y h hr hlk (dck_at da_X5_tell 20 rfl)
    · have h := gI_neg h c
      refine lv_aload_n X.1 X.2.1 (dck_at da_X5_tell 9 rfl) rfl (lv_at hl 0 rfl) ?_
      refine lv_lload X.1 X.2.1 (dck_at da_X5_tell 10 rfl) (lv_at hl 4 rfl) ?_
      refine gr_putJ X G Y fp_RX5_31 clC_69 rfl (dck_at da_X5_tell 11 rfl) (fun H locs Y => ?_)
      refine lv_aload_n X.1 X.2.1 (dck_at da_X5_tell 12 rfl) rfl (lv_at hl 0 rfl) ?_
      refine gr_getR X G Y fk_RX5_22 clC_69 rfl (dck_at da_X5_tell 13 rfl) ?_
      refine lv_iconst X.1 X.2.1 (dck_at da_X5_tell 14 rfl) ki_0 ?_
      refine lv_aload_n X.1 X.2.1 (dck_at da_X5_tell 15 rfl) rfl (lv_at hl 0 rfl) ?_
      refine gr_getR X G Y fk_RX5_28 clC_69 rfl (dck_at da_X5_tell 16 rfl) ?_
      refine lv_iconst X.1 X.2.1 (dck_at da_X5_tell 17 rfl) ki_0 ?_
      refine lv_iconst X.1 X.2.1 (dck_at da_X5_tell 18 rfl) ki_4 ?_
      obtain ⟨hin, h⟩ := gI_if h
      refine gr_cpI X G Y hl.1 wm_978 ⟨wm_652, wm_651, wm_67⟩ clC_72 clC_73 hin ⟨by simp only [grm]; omega, Nat.le_trans (m := 40) (by decide +kernel) (by simp only [grm]; omega)⟩ (dck_at da_X5_tell 19 rfl) (fun H locs Y => ?_)
      exact gr_vretO X Y h hr hlk (dck_at da_X5_tell 20 rfl)
theorem ok_c_Net_tell {l : Launch} {D : va_G} {cy : Nat → ClassId} {ad sa : Nat → Nat} {A : Nat → Prop} {F : Nat} {a2 : Int32} {a3 : Int32} {a4 : Int64} {s0 : St} {σ' : St} (h : c_Net_tell F 5 a2 a3 a4 s0 = some σ') : gMv l shC D cy ad sa A yX5_tell cX5_tell 9 none 9 [.ref (ad 69), .ref (ad 9), .int a2, .int a3, .long a4] s0 σ' := ok_c_Net_tell_r 5 _ _ _ _ _ h
set_option maxRecDepth 100000 in
set_option maxHeartbeats 4000000 in
theorem ok_c_Net_choose {l : Launch} {D : va_G} {cy : Nat → ClassId} {ad sa : Nat → Nat} {A : Nat → Prop} {F : Nat} {a2 : Int32} {s0 : St} {σ' : St} (h : c_Net_choose F a2 s0 = some σ') : gMv l shC D cy ad sa A yX5_choose cX5_choose 3 none 10 [.ref (ad 69), .ref (ad 1), .int a2] s0 σ' := by
  refine gM_of (by decide) (Nat.le_of_ble_eq_true rfl) ?_
  intro p e s m args below meth c ls X G Y hr hlk hl
  have hl : lv_has ls 3 [(0, .ref (ad 69)), (1, .ref (ad 1)), (2, .int a2)] := hl
  unfold c_Net_choose at h
  refine lv_aload_n X.1 X.2.1 (dck_at da_X5_choose 0 rfl) rfl (lv_at hl 0 rfl) ?_
  refine lv_aload_n X.1 X.2.1 (dck_at da_X5_choose 1 rfl) rfl (lv_at hl 1 rfl) ?_
  refine gr_getR X G Y fk_RX5_35 clC_1 rfl (dck_at da_X5_choose 2 rfl) ?_
  obtain ⟨s1, hc, h⟩ := gB_some h
  refine gr_backv Y (gr_runV (as := [.ref (ad 2)]) (rest := []) X G Y (ok_c_Net_findHouses hc) cv_RX5_41 clC_69 ⟨Nat.le_of_ble_eq_true rfl, Nat.le_of_ble_eq_true rfl⟩ rfl hl.1 (Nat.le_of_ble_eq_true rfl) (dck_at da_X5_choose 3 rfl)) (fun H locs Y => ?_)
  refine lv_aload_n X.1 X.2.1 (dck_at da_X5_choose 4 rfl) rfl (lv_at hl 0 rfl) ?_
  refine lv_iload_n X.1 X.2.1 (dck_at da_X5_choose 5 rfl) rfl (lv_at hl 2 rfl) ?_
  refine lv_iconst X.1 X.2.1 (dck_at da_X5_choose 6 rfl) ki_4 ?_
  refine gr_mmin X hl.1 wm_972 wm_485 wm_62 wm_486 ⟨Nat.le_of_ble_eq_true rfl, Nat.le_of_ble_eq_true rfl⟩ (dck_at da_X5_choose 7 rfl) ?_
  refine gr_putI X G Y fp_RX5_25 clC_69 rfl (dck_at da_X5_choose 8 rfl) (fun H locs Y => ?_)
  refine lv_aload_n X.1 X.2.1 (dck_at da_X5_choose 9 rfl) rfl (lv_at hl 0 rfl) ?_
  refine lv_ldc2 X.1 X.2.1 X.2.2.2.1 (X.2.2.2.2 _ wm_973) (dck_at da_X5_choose 10 rfl) ?_
  refine gr_putJ X G Y fp_RX5_31 clC_69 rfl (dck_at da_X5_choose 11 rfl) (fun H locs Y => ?_)
  refine lv_aload_n X.1 X.2.1 (dck_at da_X5_choose 12 rfl) rfl (lv_at hl 0 rfl) ?_
  refine lv_aload_n X.1 X.2.1 (dck_at da_X5_choose 13 rfl) rfl (lv_at hl 1 rfl) ?_
  refine gr_getR X G Y fk_RX5_53 clC_1 rfl (dck_at da_X5_choose 14 rfl) ?_
  refine lv_iconst X.1 X.2.1 (dck_at da_X5_choose 15 rfl) ki_0 ?_
  refine lv_iconst X.1 X.2.1 (dck_at da_X5_choose 16 rfl) ki_0 ?_
  refine lv_lconst (v := 0) X.1 X.2.1 (dck_at da_X5_choose 17 rfl) rfl ?_
  obtain ⟨s2, hc, h⟩ := gB_some h
  refine gr_backv Y (gr_runV (as := [.ref (ad 9), .int (0 : Int32), .int (0 : Int32), .long (0 : Int64)]) (rest := []) X G Y (ok_c_Net_tell hc) cv_RX5_57 clC_69 ⟨Nat.le_of_ble_eq_true rfl, Nat.le_of_ble_eq_true rfl⟩ rfl hl.1 (Nat.le_of_ble_eq_true rfl) (dck_at da_X5_choose 18 rfl)) (fun H locs Y => ?_)
  exact gr_vretO X Y h hr hlk (dck_at da_X5_choose 19 rfl)
set_option maxRecDepth 100000 in
set_option maxHeartbeats 4000000 in
theorem ok_c_net {l : Launch} {D : va_G} {cy : Nat → ClassId} {ad sa : Nat → Nat} {A : Nat → Prop} {F : Nat} {a1 : Int32} {a2 : Int32} {s0 : St} {ρ : Int64} {σ' : St} (h : c_net F a1 a2 s0 = some (ρ, σ')) : gMl l shC D cy ad sa A yX11_net cX11_net 3 (some .long) 11 [.ref (ad 0), .int a1, .int a2] s0 ρ σ' := by
  refine gM_of (by decide) (Nat.le_of_ble_eq_true rfl) ?_
  intro p e s m args below meth c ls X G Y hr hlk hl
  have hl : lv_has ls 3 [(0, .ref (ad 0)), (1, .int a1), (2, .int a2)] := hl
  have b20 : ∀  (s0 : St) (H : Heap) (locs : List Loc) (ls : Array Slot), c_net_J20 F  s0 = some (ρ, σ') → gY shC D cy ad A s0 s H locs → lv_has ls 3 [(0, .ref (ad 0))] → W p l e (grm 11) s m args below meth c H locs 0 0 (MQ below (va_Ql (fun (q : Int64) (_ : Unit) => q = ρ) (fun _ t => va_P D vwCl (gWl shC cy ad σ') t.heap) A) args s 0 0 A) (F0 m 20 ls []) := by
    intro s0 H locs ls h Y hl
    unfold c_net_J20 at h
    refine lv_aload_n X.1 X.2.1 (dck_at da_X11_net 12 rfl) rfl (lv_at hl 0 rfl) ?_
    refine lv_iconst X.1 X.2.1 (dck_at da_X11_net 13 rfl) ki_m1 ?_
    obtain ⟨r1, s1, hc, h⟩ := gB2_some h
    refine gr_backi Y (gr_runV (as := [.int (-1 : Int32)]) (rest := []) X G Y (ok_c_refuse hc) cv_RX11_55 clC_0 ⟨Nat.le_of_ble_eq_true rfl, Nat.le_of_ble_eq_true rfl⟩ rfl hl.1 (Nat.le_of_ble_eq_true rfl) (dck_at da_X11_net 14 rfl)) (fun H locs Y => ?_)
    refine lv_i2l (v := (r1).toInt64) X.1 X.2.1 (dck_at da_X11_net 15 rfl) rfl ?_
    exact gr_lretO X Y h hr hlk (dck_at da_X11_net 16 rfl)
  unfold c_net at h
  refine lv_iload_n X.1 X.2.1 (dck_at da_X11_net 0 rfl) rfl (lv_at hl 1 rfl) ?_
  refine lv_iconst X.1 X.2.1 (dck_at da_X11_net 1 rfl) ki_1 ?_
  refine lv_iconst X.1 X.2.1 (dck_at da_X11_net 2 rfl) ki_4 ?_
  obtain ⟨r2, s2, hc, h⟩ := gB2_some h
  refine gr_backi Y (gr_runS (as := [.int a1, .int (1 : Int32), .int (4 : Int32)]) (rest := []) X G Y (ok_c_isIn hc) cs_RX11_68 ⟨Nat.le_of_ble_eq_true rfl, Nat.le_of_ble_eq_true rfl⟩ rfl hl.1 (Nat.le_of_ble_eq_true rfl) (dck_at da_X11_net 3 rfl)) (fun H locs Y => ?_)
  refine lv_if_eq (tgt := 20) X.1 X.2.1 (dck_at da_X11_net 4 rfl) rfl (fun c => ?_) (fun c => ?_)
  · have h := gI_pos h c
    exact b20 s2 _ _ _ h Y (lv_sub hl [0] rfl)
  · have h := gI_neg h c
    refine lv_iload_n X.1 X.2.1 (dck_at da_X11_net 5 rfl) rfl (lv_at hl 2 rfl) ?_
    refine lv_iconst X.1 X.2.1 (dck_at da_X11_net 6 rfl) ki_m1 ?_
    refine lv_iload_n X.1 X.2.1 (dck_at da_X11_net 7 rfl) rfl (lv_at hl 1 rfl) ?_
    refine lv_iconst X.1 X.2.1 (dck_at da_X11_net 8 rfl) ki_1 ?_
    refine lv_isub X.1 X.2.1 (dck_at da_X11_net 9 rfl) ?_
    obtain ⟨r3, s3, hc, h⟩ := gB2_some h
    refine gr_backi Y (gr_runS (as := [.int a2, .int (-1 : Int32), .int (a1 - (1 : Int32))]) (rest := []) X G Y (ok_c_isIn hc) cs_RX11_68 ⟨Nat.le_of_ble_eq_true rfl, Nat.le_of_ble_eq_true rfl⟩ rfl hl.1 (Nat.le_of_ble_eq_true rfl) (dck_at da_X11_net 10 rfl)) (fun H locs Y => ?_)
    refine lv_if_ne (tgt := 27) X.1 X.2.1 (dck_at da_X11_net 11 rfl) rfl (fun c => ?_) (fun c => ?_)
    · have h := gI_neg h c
      refine lv_aload_n X.1 X.2.1 (dck_at da_X11_net 17 rfl) rfl (lv_at hl 0 rfl) ?_
      refine gr_getR X G Y fk_RX11_12 clC_0 rfl (dck_at da_X11_net 18 rfl) ?_
      refine gr_getR X G Y fk_RX11_59 clC_1 rfl (dck_at da_X11_net 19 rfl) ?_
      refine lv_bipush X.1 X.2.1 (dck_at da_X11_net 20 rfl) kb_7 ?_
      obtain ⟨r4, s4, hc, h⟩ := gB2_some h
      refine gr_backi Y (gr_runV (as := [.int (7 : Int32)]) (rest := []) X G Y (ok_c_Land_cellsOf hc) cv_RX11_206 clC_2 ⟨Nat.le_of_ble_eq_true rfl, Nat.le_of_ble_eq_true rfl⟩ rfl hl.1 (Nat.le_of_ble_eq_true rfl) (dck_at da_X11_net 21 rfl)) (fun H locs Y => ?_)
      refine lv_iload_n X.1 X.2.1 (dck_at da_X11_net 22 rfl) rfl (lv_at hl 1 rfl) ?_
      refine lv_icmp_ge (tgt := 51) X.1 X.2.1 (dck_at da_X11_net 23 rfl) rfl (fun c => ?_) (fun c => ?_)
      · have h := gI_pos h c
        refine lv_aload_n X.1 X.2.1 (dck_at da_X11_net 29 rfl) rfl (lv_at hl 0 rfl) ?_
        refine gr_getR X G Y fk_RX11_22 clC_0 rfl (dck_at da_X11_net 30 rfl) ?_
        refine lv_aload_n X.1 X.2.1 (dck_at da_X11_net 31 rfl) rfl (lv_at hl 0 rfl) ?_
        refine gr_getR X G Y fk_RX11_12 clC_0 rfl (dck_at da_X11_net 32 rfl) ?_
        refine lv_iload_n X.1 X.2.1 (dck_at da_X11_net 33 rfl) rfl (lv_at hl 1 rfl) ?_
        obtain ⟨s5, hc, h⟩ := gB_some h
        refine gr_backv Y (gr_runV (as := [.ref (ad 1), .int a1]) (rest := []) X G Y (ok_c_Net_choose hc) cv_RX11_307 clC_69 ⟨Nat.le_of_ble_eq_true rfl, Nat.le_of_ble_eq_true rfl⟩ rfl hl.1 (Nat.le_of_ble_eq_true rfl) (dck_at da_X11_net 34 rfl)) (fun H locs Y => ?_)
        refine lv_iload_n X.1 X.2.1 (dck_at da_X11_net 35 rfl) rfl (lv_at hl 2 rfl) ?_
        refine lv_if_ge (tgt := 77) X.1 X.2.1 (dck_at da_X11_net 36 rfl) rfl (fun c => ?_) (fun c => ?_)
        · have h := gI_pos h c
          refine lv_aload_n X.1 X.2.1 (dck_at da_X11_net 41 rfl) rfl (lv_at hl 0 rfl) ?_
          refine gr_getR X G Y fk_RX11_22 clC_0 rfl (dck_at da_X11_net 42 rfl) ?_
          refine gr_getR X G Y fk_RX11_311 clC_69 rfl (dck_at da_X11_net 43 rfl) ?_
          refine lv_iload_n X.1 X.2.1 (dck_at da_X11_net 44 rfl) rfl (lv_at hl 2 rfl) ?_
          obtain ⟨hin, h⟩ := gI_if h
          refine gr_iald X G Y clC_73 hin (dck_at da_X11_net 45 rfl) ?_
          refine lv_i2l (v := (s5.1 73 (a2).toNatClampNeg).toInt64) X.1 X.2.1 (dck_at da_X11_net 46 rfl) rfl ?_
          exact gr_lretO X Y h hr hlk (dck_at da_X11_net 47 rfl)
        · have h := gI_neg h c
          refine lv_aload_n X.1 X.2.1 (dck_at da_X11_net 37 rfl) rfl (lv_at hl 0 rfl) ?_
          refine gr_getR X G Y fk_RX11_22 clC_0 rfl (dck_at da_X11_net 38 rfl) ?_
          refine gr_getJ X G Y fk_RX11_310 clC_69 rfl (dck_at da_X11_net 39 rfl) ?_
          refine lv_goto (tgt := 87) X.1 X.2.1 (dck_at da_X11_net 40 rfl) rfl ?_
          exact gr_lretO X Y h hr hlk (dck_at da_X11_net 47 rfl)
      · have h := gI_neg h c
        refine lv_aload_n X.1 X.2.1 (dck_at da_X11_net 24 rfl) rfl (lv_at hl 0 rfl) ?_
        refine lv_bipush X.1 X.2.1 (dck_at da_X11_net 25 rfl) kb_m4 ?_
        obtain ⟨r6, s6, hc, h⟩ := gB2_some h
        refine gr_backi Y (gr_runV (as := [.int (-4 : Int32)]) (rest := []) X G Y (ok_c_refuse hc) cv_RX11_55 clC_0 ⟨Nat.le_of_ble_eq_true rfl, Nat.le_of_ble_eq_true rfl⟩ rfl hl.1 (Nat.le_of_ble_eq_true rfl) (dck_at da_X11_net 26 rfl)) (fun H locs Y => ?_)
        refine lv_i2l (v := (r6).toInt64) X.1 X.2.1 (dck_at da_X11_net 27 rfl) rfl ?_
        exact gr_lretO X Y h hr hlk (dck_at da_X11_net 28 rfl)
    · have h := gI_pos h c
      exact b20 s3 _ _ _ h Y (lv_sub hl [0] rfl)
set_option maxRecDepth 100000 in
set_option maxHeartbeats 4000000 in
theorem ok_c_Teams_empty {l : Launch} {D : va_G} {cy : Nat → ClassId} {ad sa : Nat → Nat} {A : Nat → Prop} {F : Nat}  {s0 : St} {ρ : Int32} {σ' : St} (h : c_Teams_empty F s0 = some (ρ, σ')) : gMi l shC D cy ad sa A yX10_empty cX10_empty 2 (some .int) 1 [.ref (ad 14)] s0 ρ σ' := by
  refine gM_of (by decide) (Nat.le_of_ble_eq_true rfl) ?_
  intro p e s m args below meth c ls X G Y hr hlk hl
  have hl : lv_has ls 2 [(0, .ref (ad 14))] := hl
  unfold c_Teams_empty at h
  refine lv_aload_n X.1 X.2.1 (dck_at da_X10_empty 0 rfl) rfl (lv_at hl 0 rfl) ?_
  refine gr_getI X G Y fk_RX10_34 clC_14 rfl (dck_at da_X10_empty 1 rfl) ?_
  refine lv_aload_n X.1 X.2.1 (dck_at da_X10_empty 2 rfl) rfl (lv_at hl 0 rfl) ?_
  refine gr_getI X G Y fk_RX10_38 clC_14 rfl (dck_at da_X10_empty 3 rfl) ?_
  refine lv_iadd X.1 X.2.1 (dck_at da_X10_empty 4 rfl) ?_
  refine lv_istore_n (lv' := [(1, .int ((s0.1 14 7) + (s0.1 14 8))), (0, .ref (ad 14))]) X.1 X.2.1 (dck_at da_X10_empty 5 rfl) rfl hl (by decide) rfl (fun ls hl => ?_)
  refine lv_aload_n X.1 X.2.1 (dck_at da_X10_empty 6 rfl) rfl (lv_at hl 1 rfl) ?_
  refine lv_iconst X.1 X.2.1 (dck_at da_X10_empty 7 rfl) ki_0 ?_
  refine gr_putI X G Y fp_RX10_34 clC_14 rfl (dck_at da_X10_empty 8 rfl) (fun H locs Y => ?_)
  refine lv_aload_n X.1 X.2.1 (dck_at da_X10_empty 9 rfl) rfl (lv_at hl 1 rfl) ?_
  refine lv_iconst X.1 X.2.1 (dck_at da_X10_empty 10 rfl) ki_0 ?_
  refine gr_putI X G Y fp_RX10_38 clC_14 rfl (dck_at da_X10_empty 11 rfl) (fun H locs Y => ?_)
  refine lv_iload_n X.1 X.2.1 (dck_at da_X10_empty 12 rfl) rfl (lv_at hl 0 rfl) ?_
  exact gr_iretO X Y h hr rfl hlk (dck_at da_X10_empty 13 rfl)
set_option maxRecDepth 100000 in
set_option maxHeartbeats 4000000 in
theorem ok_c_Jobs_empty {l : Launch} {D : va_G} {cy : Nat → ClassId} {ad sa : Nat → Nat} {A : Nat → Prop} {F : Nat}  {s0 : St} {ρ : Int32} {σ' : St} (h : c_Jobs_empty F s0 = some (ρ, σ')) : gMi l shC D cy ad sa A yX2_empty cX2_empty 2 (some .int) 1 [.ref (ad 22)] s0 ρ σ' := by
  refine gM_of (by decide) (Nat.le_of_ble_eq_true rfl) ?_
  intro p e s m args below meth c ls X G Y hr hlk hl
  have hl : lv_has ls 2 [(0, .ref (ad 22))] := hl
  unfold c_Jobs_empty at h
  refine lv_aload_n X.1 X.2.1 (dck_at da_X2_empty 0 rfl) rfl (lv_at hl 0 rfl) ?_
  refine gr_getI X G Y fk_RX2_27 clC_22 rfl (dck_at da_X2_empty 1 rfl) ?_
  refine lv_istore_n (lv' := [(1, .int (s0.1 22 5)), (0, .ref (ad 22))]) X.1 X.2.1 (dck_at da_X2_empty 2 rfl) rfl hl (by decide) rfl (fun ls hl => ?_)
  refine lv_aload_n X.1 X.2.1 (dck_at da_X2_empty 3 rfl) rfl (lv_at hl 1 rfl) ?_
  refine lv_iconst X.1 X.2.1 (dck_at da_X2_empty 4 rfl) ki_0 ?_
  refine gr_putI X G Y fp_RX2_27 clC_22 rfl (dck_at da_X2_empty 5 rfl) (fun H locs Y => ?_)
  refine lv_iload_n X.1 X.2.1 (dck_at da_X2_empty 6 rfl) rfl (lv_at hl 0 rfl) ?_
  exact gr_iretO X Y h hr rfl hlk (dck_at da_X2_empty 7 rfl)
set_option maxRecDepth 100000 in
set_option maxHeartbeats 4000000 in
theorem ok_c_Door_empty {l : Launch} {D : va_G} {cy : Nat → ClassId} {ad sa : Nat → Nat} {A : Nat → Prop} {F : Nat}  {s0 : St} {ρ : Int32} {σ' : St} (h : c_Door_empty F s0 = some (ρ, σ')) : gMi l shC D cy ad sa A yX1_empty cX1_empty 2 (some .int) 1 [.ref (ad 32)] s0 ρ σ' := by
  refine gM_of (by decide) (Nat.le_of_ble_eq_true rfl) ?_
  intro p e s m args below meth c ls X G Y hr hlk hl
  have hl : lv_has ls 2 [(0, .ref (ad 32))] := hl
  unfold c_Door_empty at h
  refine lv_aload_n X.1 X.2.1 (dck_at da_X1_empty 0 rfl) rfl (lv_at hl 0 rfl) ?_
  refine gr_getI X G Y fk_RX1_18 clC_32 rfl (dck_at da_X1_empty 1 rfl) ?_
  refine lv_istore_n (lv' := [(1, .int (s0.1 32 2)), (0, .ref (ad 32))]) X.1 X.2.1 (dck_at da_X1_empty 2 rfl) rfl hl (by decide) rfl (fun ls hl => ?_)
  refine lv_aload_n X.1 X.2.1 (dck_at da_X1_empty 3 rfl) rfl (lv_at hl 1 rfl) ?_
  refine lv_iconst X.1 X.2.1 (dck_at da_X1_empty 4 rfl) ki_0 ?_
  refine gr_putI X G Y fp_RX1_18 clC_32 rfl (dck_at da_X1_empty 5 rfl) (fun H locs Y => ?_)
  refine lv_iload_n X.1 X.2.1 (dck_at da_X1_empty 6 rfl) rfl (lv_at hl 0 rfl) ?_
  exact gr_iretO X Y h hr rfl hlk (dck_at da_X1_empty 7 rfl)
set_option maxRecDepth 100000 in
set_option maxHeartbeats 4000000 in
theorem ok_c_Book_empty {l : Launch} {D : va_G} {cy : Nat → ClassId} {ad sa : Nat → Nat} {A : Nat → Prop} {F : Nat}  {s0 : St} {ρ : Int32} {σ' : St} (h : c_Book_empty F s0 = some (ρ, σ')) : gMi l shC D cy ad sa A yX0_empty cX0_empty 2 (some .int) 1 [.ref (ad 28)] s0 ρ σ' := by
  refine gM_of (by decide) (Nat.le_of_ble_eq_true rfl) ?_
  intro p e s m args below meth c ls X G Y hr hlk hl
  have hl : lv_has ls 2 [(0, .ref (ad 28))] := hl
  unfold c_Book_empty at h
  refine lv_aload_n X.1 X.2.1 (dck_at da_X0_empty 0 rfl) rfl (lv_at hl 0 rfl) ?_
  refine gr_getI X G Y fk_RX0_21 clC_28 rfl (dck_at da_X0_empty 1 rfl) ?_
  refine lv_istore_n (lv' := [(1, .int (s0.1 28 3)), (0, .ref (ad 28))]) X.1 X.2.1 (dck_at da_X0_empty 2 rfl) rfl hl (by decide) rfl (fun ls hl => ?_)
  refine lv_aload_n X.1 X.2.1 (dck_at da_X0_empty 3 rfl) rfl (lv_at hl 1 rfl) ?_
  refine lv_iconst X.1 X.2.1 (dck_at da_X0_empty 4 rfl) ki_0 ?_
  refine gr_putI X G Y fp_RX0_21 clC_28 rfl (dck_at da_X0_empty 5 rfl) (fun H locs Y => ?_)
  refine lv_iload_n X.1 X.2.1 (dck_at da_X0_empty 6 rfl) rfl (lv_at hl 0 rfl) ?_
  exact gr_iretO X Y h hr rfl hlk (dck_at da_X0_empty 7 rfl)
set_option maxRecDepth 100000 in
set_option maxHeartbeats 4000000 in
theorem ok_c_clear {l : Launch} {D : va_G} {cy : Nat → ClassId} {ad sa : Nat → Nat} {A : Nat → Prop} {F : Nat}  {s0 : St} {ρ : Int32} {σ' : St} (h : c_clear F s0 = some (ρ, σ')) : gMi l shC D cy ad sa A yX11_clear cX11_clear 1 (some .int) 2 [.ref (ad 0)] s0 ρ σ' := by
  refine gM_of (by decide) (Nat.le_of_ble_eq_true rfl) ?_
  intro p e s m args below meth c ls X G Y hr hlk hl
  have hl : lv_has ls 1 [(0, .ref (ad 0))] := hl
  unfold c_clear at h
  refine lv_aload_n X.1 X.2.1 (dck_at da_X11_clear 0 rfl) rfl (lv_at hl 0 rfl) ?_
  refine gr_getR X G Y fk_RX11_12 clC_0 rfl (dck_at da_X11_clear 1 rfl) ?_
  refine gr_getR X G Y fk_RX11_170 clC_1 rfl (dck_at da_X11_clear 2 rfl) ?_
  obtain ⟨r1, s1, hc, h⟩ := gB2_some h
  refine gr_backi Y (gr_runV (as := []) (rest := []) X G Y (ok_c_Teams_empty hc) cv_RX11_312 clC_14 ⟨Nat.le_of_ble_eq_true rfl, Nat.le_of_ble_eq_true rfl⟩ rfl hl.1 (Nat.le_of_ble_eq_true rfl) (dck_at da_X11_clear 3 rfl)) (fun H locs Y => ?_)
  refine lv_aload_n X.1 X.2.1 (dck_at da_X11_clear 4 rfl) rfl (lv_at hl 0 rfl) ?_
  refine gr_getR X G Y fk_RX11_12 clC_0 rfl (dck_at da_X11_clear 5 rfl) ?_
  refine gr_getR X G Y fk_RX11_182 clC_1 rfl (dck_at da_X11_clear 6 rfl) ?_
  obtain ⟨r2, s2, hc, h⟩ := gB2_some h
  refine gr_backi Y (gr_runV (as := []) (rest := [.int r1]) X G Y (ok_c_Jobs_empty hc) cv_RX11_315 clC_22 ⟨Nat.le_of_ble_eq_true rfl, Nat.le_of_ble_eq_true rfl⟩ rfl hl.1 (Nat.le_of_ble_eq_true rfl) (dck_at da_X11_clear 7 rfl)) (fun H locs Y => ?_)
  refine lv_iadd X.1 X.2.1 (dck_at da_X11_clear 8 rfl) ?_
  refine lv_aload_n X.1 X.2.1 (dck_at da_X11_clear 9 rfl) rfl (lv_at hl 0 rfl) ?_
  refine gr_getR X G Y fk_RX11_12 clC_0 rfl (dck_at da_X11_clear 10 rfl) ?_
  refine gr_getR X G Y fk_RX11_196 clC_1 rfl (dck_at da_X11_clear 11 rfl) ?_
  obtain ⟨r3, s3, hc, h⟩ := gB2_some h
  refine gr_backi Y (gr_runV (as := []) (rest := [.int (r1 + r2)]) X G Y (ok_c_Door_empty hc) cv_RX11_316 clC_32 ⟨Nat.le_of_ble_eq_true rfl, Nat.le_of_ble_eq_true rfl⟩ rfl hl.1 (Nat.le_of_ble_eq_true rfl) (dck_at da_X11_clear 12 rfl)) (fun H locs Y => ?_)
  refine lv_iadd X.1 X.2.1 (dck_at da_X11_clear 13 rfl) ?_
  refine lv_aload_n X.1 X.2.1 (dck_at da_X11_clear 14 rfl) rfl (lv_at hl 0 rfl) ?_
  refine gr_getR X G Y fk_RX11_12 clC_0 rfl (dck_at da_X11_clear 15 rfl) ?_
  refine gr_getR X G Y fk_RX11_189 clC_1 rfl (dck_at da_X11_clear 16 rfl) ?_
  obtain ⟨r4, s4, hc, h⟩ := gB2_some h
  refine gr_backi Y (gr_runV (as := []) (rest := [.int ((r1 + r2) + r3)]) X G Y (ok_c_Book_empty hc) cv_RX11_317 clC_28 ⟨Nat.le_of_ble_eq_true rfl, Nat.le_of_ble_eq_true rfl⟩ rfl hl.1 (Nat.le_of_ble_eq_true rfl) (dck_at da_X11_clear 17 rfl)) (fun H locs Y => ?_)
  refine lv_iadd X.1 X.2.1 (dck_at da_X11_clear 18 rfl) ?_
  exact gr_iretO X Y h hr rfl hlk (dck_at da_X11_clear 19 rfl)
set_option maxRecDepth 100000 in
set_option maxHeartbeats 4000000 in
theorem ok_c_Land_become {l : Launch} {D : va_G} {cy : Nat → ClassId} {ad sa : Nat → Nat} {A : Nat → Prop} {F : Nat}  {s0 : St} {σ' : St} (h : c_Land_become F s0 = some σ') : gMv l shC D cy ad sa A yX3_become cX3_become 2 none 1 [.ref (ad 36), .ref (ad 2)] s0 σ' := by
  refine gM_of (by decide) (Nat.le_of_ble_eq_true rfl) ?_
  intro p e s m args below meth c ls X G Y hr hlk hl
  have hl : lv_has ls 2 [(0, .ref (ad 36)), (1, .ref (ad 2))] := hl
  unfold c_Land_become at h
  refine lv_aload_n X.1 X.2.1 (dck_at da_X3_become 0 rfl) rfl (lv_at hl 1 rfl) ?_
  refine gr_getR X G Y fk_RX3_9 clC_2 rfl (dck_at da_X3_become 1 rfl) ?_
  refine lv_iconst X.1 X.2.1 (dck_at da_X3_become 2 rfl) ki_0 ?_
  refine lv_aload_n X.1 X.2.1 (dck_at da_X3_become 3 rfl) rfl (lv_at hl 0 rfl) ?_
  refine gr_getR X G Y fk_RX3_9 clC_36 rfl (dck_at da_X3_become 4 rfl) ?_
  refine lv_iconst X.1 X.2.1 (dck_at da_X3_become 5 rfl) ki_0 ?_
  refine lv_sipush X.1 X.2.1 (dck_at da_X3_become 6 rfl) ks_144 ?_
  obtain ⟨hin, h⟩ := gI_if h
  refine gr_cpI X G Y hl.1 wm_1024 ⟨wm_652, wm_651, wm_67⟩ clC_3 clC_37 hin ⟨Nat.le_of_ble_eq_true rfl, by decide +kernel⟩ (dck_at da_X3_become 7 rfl) (fun H locs Y => ?_)
  refine lv_aload_n X.1 X.2.1 (dck_at da_X3_become 8 rfl) rfl (lv_at hl 1 rfl) ?_
  refine gr_getR X G Y fk_RX3_15 clC_2 rfl (dck_at da_X3_become 9 rfl) ?_
  refine lv_iconst X.1 X.2.1 (dck_at da_X3_become 10 rfl) ki_0 ?_
  refine lv_aload_n X.1 X.2.1 (dck_at da_X3_become 11 rfl) rfl (lv_at hl 0 rfl) ?_
  refine gr_getR X G Y fk_RX3_15 clC_36 rfl (dck_at da_X3_become 12 rfl) ?_
  refine lv_iconst X.1 X.2.1 (dck_at da_X3_become 13 rfl) ki_0 ?_
  refine lv_sipush X.1 X.2.1 (dck_at da_X3_become 14 rfl) ks_144 ?_
  obtain ⟨hin, h⟩ := gI_if h
  refine gr_cpI X G Y hl.1 wm_1024 ⟨wm_652, wm_651, wm_67⟩ clC_4 clC_38 hin ⟨Nat.le_of_ble_eq_true rfl, by decide +kernel⟩ (dck_at da_X3_become 15 rfl) (fun H locs Y => ?_)
  refine lv_aload_n X.1 X.2.1 (dck_at da_X3_become 16 rfl) rfl (lv_at hl 1 rfl) ?_
  refine gr_getR X G Y fk_RX3_18 clC_2 rfl (dck_at da_X3_become 17 rfl) ?_
  refine lv_iconst X.1 X.2.1 (dck_at da_X3_become 18 rfl) ki_0 ?_
  refine lv_aload_n X.1 X.2.1 (dck_at da_X3_become 19 rfl) rfl (lv_at hl 0 rfl) ?_
  refine gr_getR X G Y fk_RX3_18 clC_36 rfl (dck_at da_X3_become 20 rfl) ?_
  refine lv_iconst X.1 X.2.1 (dck_at da_X3_become 21 rfl) ki_0 ?_
  refine lv_sipush X.1 X.2.1 (dck_at da_X3_become 22 rfl) ks_144 ?_
  obtain ⟨hin, h⟩ := gI_if h
  refine gr_cpI X G Y hl.1 wm_1024 ⟨wm_652, wm_651, wm_67⟩ clC_5 clC_39 hin ⟨Nat.le_of_ble_eq_true rfl, by decide +kernel⟩ (dck_at da_X3_become 23 rfl) (fun H locs Y => ?_)
  exact gr_vretO X Y h hr hlk (dck_at da_X3_become 24 rfl)
set_option maxRecDepth 100000 in
set_option maxHeartbeats 4000000 in
theorem ok_c_Law_become {l : Launch} {D : va_G} {cy : Nat → ClassId} {ad sa : Nat → Nat} {A : Nat → Prop} {F : Nat}  {s0 : St} {σ' : St} (h : c_Law_become F s0 = some σ') : gMv l shC D cy ad sa A yX4_become cX4_become 2 none 1 [.ref (ad 40), .ref (ad 6)] s0 σ' := by
  refine gM_of (by decide) (Nat.le_of_ble_eq_true rfl) ?_
  intro p e s m args below meth c ls X G Y hr hlk hl
  have hl : lv_has ls 2 [(0, .ref (ad 40)), (1, .ref (ad 6))] := hl
  unfold c_Law_become at h
  refine lv_aload_n X.1 X.2.1 (dck_at da_X4_become 0 rfl) rfl (lv_at hl 1 rfl) ?_
  refine gr_getR X G Y fk_RX4_9 clC_6 rfl (dck_at da_X4_become 1 rfl) ?_
  refine lv_iconst X.1 X.2.1 (dck_at da_X4_become 2 rfl) ki_0 ?_
  refine lv_aload_n X.1 X.2.1 (dck_at da_X4_become 3 rfl) rfl (lv_at hl 0 rfl) ?_
  refine gr_getR X G Y fk_RX4_9 clC_40 rfl (dck_at da_X4_become 4 rfl) ?_
  refine lv_iconst X.1 X.2.1 (dck_at da_X4_become 5 rfl) ki_0 ?_
  refine lv_bipush X.1 X.2.1 (dck_at da_X4_become 6 rfl) kb_10 ?_
  obtain ⟨hin, h⟩ := gI_if h
  refine gr_cpI X G Y hl.1 wm_1029 ⟨wm_652, wm_651, wm_67⟩ clC_7 clC_41 hin ⟨Nat.le_of_ble_eq_true rfl, by decide +kernel⟩ (dck_at da_X4_become 7 rfl) (fun H locs Y => ?_)
  refine lv_aload_n X.1 X.2.1 (dck_at da_X4_become 8 rfl) rfl (lv_at hl 1 rfl) ?_
  refine gr_getR X G Y fk_RX4_15 clC_6 rfl (dck_at da_X4_become 9 rfl) ?_
  refine lv_iconst X.1 X.2.1 (dck_at da_X4_become 10 rfl) ki_0 ?_
  refine lv_aload_n X.1 X.2.1 (dck_at da_X4_become 11 rfl) rfl (lv_at hl 0 rfl) ?_
  refine gr_getR X G Y fk_RX4_15 clC_40 rfl (dck_at da_X4_become 12 rfl) ?_
  refine lv_iconst X.1 X.2.1 (dck_at da_X4_become 13 rfl) ki_0 ?_
  refine lv_bipush X.1 X.2.1 (dck_at da_X4_become 14 rfl) kb_8 ?_
  obtain ⟨hin, h⟩ := gI_if h
  refine gr_cpI X G Y hl.1 wm_1029 ⟨wm_652, wm_651, wm_67⟩ clC_8 clC_42 hin ⟨Nat.le_of_ble_eq_true rfl, by decide +kernel⟩ (dck_at da_X4_become 15 rfl) (fun H locs Y => ?_)
  exact gr_vretO X Y h hr hlk (dck_at da_X4_become 16 rfl)
set_option maxRecDepth 100000 in
set_option maxHeartbeats 4000000 in
theorem ok_c_Night_become {l : Launch} {D : va_G} {cy : Nat → ClassId} {ad sa : Nat → Nat} {A : Nat → Prop} {F : Nat}  {s0 : St} {σ' : St} (h : c_Night_become F s0 = some σ') : gMv l shC D cy ad sa A yX6_become cX6_become 2 none 1 [.ref (ad 43), .ref (ad 9)] s0 σ' := by
  refine gM_of (by decide) (Nat.le_of_ble_eq_true rfl) ?_
  intro p e s m args below meth c ls X G Y hr hlk hl
  have hl : lv_has ls 2 [(0, .ref (ad 43)), (1, .ref (ad 9))] := hl
  unfold c_Night_become at h
  refine lv_aload_n X.1 X.2.1 (dck_at da_X6_become 0 rfl) rfl (lv_at hl 1 rfl) ?_
  refine gr_getR X G Y fk_RX6_9 clC_9 rfl (dck_at da_X6_become 1 rfl) ?_
  refine lv_iconst X.1 X.2.1 (dck_at da_X6_become 2 rfl) ki_0 ?_
  refine lv_aload_n X.1 X.2.1 (dck_at da_X6_become 3 rfl) rfl (lv_at hl 0 rfl) ?_
  refine gr_getR X G Y fk_RX6_9 clC_43 rfl (dck_at da_X6_become 4 rfl) ?_
  refine lv_iconst X.1 X.2.1 (dck_at da_X6_become 5 rfl) ki_0 ?_
  refine lv_sipush X.1 X.2.1 (dck_at da_X6_become 6 rfl) ks_576 ?_
  obtain ⟨hin, h⟩ := gI_if h
  refine gr_cpJ X G Y hl.1 wm_650 ⟨wm_652, wm_651, wm_67⟩ clC_10 clC_44 hin ⟨Nat.le_of_ble_eq_true rfl, by decide +kernel⟩ (dck_at da_X6_become 7 rfl) (fun H locs Y => ?_)
  refine lv_aload_n X.1 X.2.1 (dck_at da_X6_become 8 rfl) rfl (lv_at hl 1 rfl) ?_
  refine gr_getR X G Y fk_RX6_15 clC_9 rfl (dck_at da_X6_become 9 rfl) ?_
  refine lv_iconst X.1 X.2.1 (dck_at da_X6_become 10 rfl) ki_0 ?_
  refine lv_aload_n X.1 X.2.1 (dck_at da_X6_become 11 rfl) rfl (lv_at hl 0 rfl) ?_
  refine gr_getR X G Y fk_RX6_15 clC_43 rfl (dck_at da_X6_become 12 rfl) ?_
  refine lv_iconst X.1 X.2.1 (dck_at da_X6_become 13 rfl) ki_0 ?_
  refine lv_sipush X.1 X.2.1 (dck_at da_X6_become 14 rfl) ks_144 ?_
  obtain ⟨hin, h⟩ := gI_if h
  refine gr_cpJ X G Y hl.1 wm_650 ⟨wm_652, wm_651, wm_67⟩ clC_11 clC_45 hin ⟨Nat.le_of_ble_eq_true rfl, by decide +kernel⟩ (dck_at da_X6_become 15 rfl) (fun H locs Y => ?_)
  refine lv_aload_n X.1 X.2.1 (dck_at da_X6_become 16 rfl) rfl (lv_at hl 0 rfl) ?_
  refine lv_aload_n X.1 X.2.1 (dck_at da_X6_become 17 rfl) rfl (lv_at hl 1 rfl) ?_
  refine gr_getI X G Y fk_RX6_25 clC_9 rfl (dck_at da_X6_become 18 rfl) ?_
  refine gr_putI X G Y fp_RX6_25 clC_43 rfl (dck_at da_X6_become 19 rfl) (fun H locs Y => ?_)
  exact gr_vretO X Y h hr hlk (dck_at da_X6_become 20 rfl)
set_option maxRecDepth 100000 in
set_option maxHeartbeats 4000000 in
theorem ok_c_Teams_become {l : Launch} {D : va_G} {cy : Nat → ClassId} {ad sa : Nat → Nat} {A : Nat → Prop} {F : Nat}  {s0 : St} {σ' : St} (h : c_Teams_become F s0 = some σ') : gMv l shC D cy ad sa A yX10_become cX10_become 2 none 1 [.ref (ad 48), .ref (ad 14)] s0 σ' := by
  refine gM_of (by decide) (Nat.le_of_ble_eq_true rfl) ?_
  intro p e s m args below meth c ls X G Y hr hlk hl
  have hl : lv_has ls 2 [(0, .ref (ad 48)), (1, .ref (ad 14))] := hl
  unfold c_Teams_become at h
  refine lv_aload_n X.1 X.2.1 (dck_at da_X10_become 0 rfl) rfl (lv_at hl 1 rfl) ?_
  refine gr_getR X G Y fk_RX10_11 clC_14 rfl (dck_at da_X10_become 1 rfl) ?_
  refine lv_iconst X.1 X.2.1 (dck_at da_X10_become 2 rfl) ki_0 ?_
  refine lv_aload_n X.1 X.2.1 (dck_at da_X10_become 3 rfl) rfl (lv_at hl 0 rfl) ?_
  refine gr_getR X G Y fk_RX10_11 clC_48 rfl (dck_at da_X10_become 4 rfl) ?_
  refine lv_iconst X.1 X.2.1 (dck_at da_X10_become 5 rfl) ki_0 ?_
  refine lv_iconst X.1 X.2.1 (dck_at da_X10_become 6 rfl) ki_4 ?_
  obtain ⟨hin, h⟩ := gI_if h
  refine gr_cpI X G Y hl.1 wm_794 ⟨wm_652, wm_651, wm_67⟩ clC_15 clC_49 hin ⟨Nat.le_of_ble_eq_true rfl, by decide +kernel⟩ (dck_at da_X10_become 7 rfl) (fun H locs Y => ?_)
  refine lv_aload_n X.1 X.2.1 (dck_at da_X10_become 8 rfl) rfl (lv_at hl 1 rfl) ?_
  refine gr_getR X G Y fk_RX10_15 clC_14 rfl (dck_at da_X10_become 9 rfl) ?_
  refine lv_iconst X.1 X.2.1 (dck_at da_X10_become 10 rfl) ki_0 ?_
  refine lv_aload_n X.1 X.2.1 (dck_at da_X10_become 11 rfl) rfl (lv_at hl 0 rfl) ?_
  refine gr_getR X G Y fk_RX10_15 clC_48 rfl (dck_at da_X10_become 12 rfl) ?_
  refine lv_iconst X.1 X.2.1 (dck_at da_X10_become 13 rfl) ki_0 ?_
  refine lv_iconst X.1 X.2.1 (dck_at da_X10_become 14 rfl) ki_4 ?_
  obtain ⟨hin, h⟩ := gI_if h
  refine gr_cpI X G Y hl.1 wm_794 ⟨wm_652, wm_651, wm_67⟩ clC_16 clC_50 hin ⟨Nat.le_of_ble_eq_true rfl, by decide +kernel⟩ (dck_at da_X10_become 15 rfl) (fun H locs Y => ?_)
  refine lv_aload_n X.1 X.2.1 (dck_at da_X10_become 16 rfl) rfl (lv_at hl 1 rfl) ?_
  refine gr_getR X G Y fk_RX10_18 clC_14 rfl (dck_at da_X10_become 17 rfl) ?_
  refine lv_iconst X.1 X.2.1 (dck_at da_X10_become 18 rfl) ki_0 ?_
  refine lv_aload_n X.1 X.2.1 (dck_at da_X10_become 19 rfl) rfl (lv_at hl 0 rfl) ?_
  refine gr_getR X G Y fk_RX10_18 clC_48 rfl (dck_at da_X10_become 20 rfl) ?_
  refine lv_iconst X.1 X.2.1 (dck_at da_X10_become 21 rfl) ki_0 ?_
  refine lv_iconst X.1 X.2.1 (dck_at da_X10_become 22 rfl) ki_4 ?_
  obtain ⟨hin, h⟩ := gI_if h
  refine gr_cpI X G Y hl.1 wm_794 ⟨wm_652, wm_651, wm_67⟩ clC_17 clC_51 hin ⟨Nat.le_of_ble_eq_true rfl, by decide +kernel⟩ (dck_at da_X10_become 23 rfl) (fun H locs Y => ?_)
  refine lv_aload_n X.1 X.2.1 (dck_at da_X10_become 24 rfl) rfl (lv_at hl 1 rfl) ?_
  refine gr_getR X G Y fk_RX10_21 clC_14 rfl (dck_at da_X10_become 25 rfl) ?_
  refine lv_iconst X.1 X.2.1 (dck_at da_X10_become 26 rfl) ki_0 ?_
  refine lv_aload_n X.1 X.2.1 (dck_at da_X10_become 27 rfl) rfl (lv_at hl 0 rfl) ?_
  refine gr_getR X G Y fk_RX10_21 clC_48 rfl (dck_at da_X10_become 28 rfl) ?_
  refine lv_iconst X.1 X.2.1 (dck_at da_X10_become 29 rfl) ki_0 ?_
  refine lv_bipush X.1 X.2.1 (dck_at da_X10_become 30 rfl) kb_6 ?_
  obtain ⟨hin, h⟩ := gI_if h
  refine gr_cpI X G Y hl.1 wm_794 ⟨wm_652, wm_651, wm_67⟩ clC_18 clC_52 hin ⟨Nat.le_of_ble_eq_true rfl, by decide +kernel⟩ (dck_at da_X10_become 31 rfl) (fun H locs Y => ?_)
  refine lv_aload_n X.1 X.2.1 (dck_at da_X10_become 32 rfl) rfl (lv_at hl 0 rfl) ?_
  refine lv_aload_n X.1 X.2.1 (dck_at da_X10_become 33 rfl) rfl (lv_at hl 1 rfl) ?_
  refine gr_getI X G Y fk_RX10_34 clC_14 rfl (dck_at da_X10_become 34 rfl) ?_
  refine gr_putI X G Y fp_RX10_34 clC_48 rfl (dck_at da_X10_become 35 rfl) (fun H locs Y => ?_)
  refine lv_aload_n X.1 X.2.1 (dck_at da_X10_become 36 rfl) rfl (lv_at hl 0 rfl) ?_
  refine lv_aload_n X.1 X.2.1 (dck_at da_X10_become 37 rfl) rfl (lv_at hl 1 rfl) ?_
  refine gr_getI X G Y fk_RX10_38 clC_14 rfl (dck_at da_X10_become 38 rfl) ?_
  refine gr_putI X G Y fp_RX10_38 clC_48 rfl (dck_at da_X10_become 39 rfl) (fun H locs Y => ?_)
  exact gr_vretO X Y h hr hlk (dck_at da_X10_become 40 rfl)
set_option maxRecDepth 100000 in
set_option maxHeartbeats 4000000 in
theorem ok_c_Jobs_become {l : Launch} {D : va_G} {cy : Nat → ClassId} {ad sa : Nat → Nat} {A : Nat → Prop} {F : Nat}  {s0 : St} {σ' : St} (h : c_Jobs_become F s0 = some σ') : gMv l shC D cy ad sa A yX2_become cX2_become 2 none 1 [.ref (ad 56), .ref (ad 22)] s0 σ' := by
  refine gM_of (by decide) (Nat.le_of_ble_eq_true rfl) ?_
  intro p e s m args below meth c ls X G Y hr hlk hl
  have hl : lv_has ls 2 [(0, .ref (ad 56)), (1, .ref (ad 22))] := hl
  unfold c_Jobs_become at h
  refine lv_aload_n X.1 X.2.1 (dck_at da_X2_become 0 rfl) rfl (lv_at hl 1 rfl) ?_
  refine gr_getR X G Y fk_RX2_11 clC_22 rfl (dck_at da_X2_become 1 rfl) ?_
  refine lv_iconst X.1 X.2.1 (dck_at da_X2_become 2 rfl) ki_0 ?_
  refine lv_aload_n X.1 X.2.1 (dck_at da_X2_become 3 rfl) rfl (lv_at hl 0 rfl) ?_
  refine gr_getR X G Y fk_RX2_11 clC_56 rfl (dck_at da_X2_become 4 rfl) ?_
  refine lv_iconst X.1 X.2.1 (dck_at da_X2_become 5 rfl) ki_0 ?_
  refine lv_bipush X.1 X.2.1 (dck_at da_X2_become 6 rfl) kb_6 ?_
  obtain ⟨hin, h⟩ := gI_if h
  refine gr_cpI X G Y hl.1 wm_867 ⟨wm_652, wm_651, wm_67⟩ clC_23 clC_57 hin ⟨Nat.le_of_ble_eq_true rfl, by decide +kernel⟩ (dck_at da_X2_become 7 rfl) (fun H locs Y => ?_)
  refine lv_aload_n X.1 X.2.1 (dck_at da_X2_become 8 rfl) rfl (lv_at hl 1 rfl) ?_
  refine gr_getR X G Y fk_RX2_15 clC_22 rfl (dck_at da_X2_become 9 rfl) ?_
  refine lv_iconst X.1 X.2.1 (dck_at da_X2_become 10 rfl) ki_0 ?_
  refine lv_aload_n X.1 X.2.1 (dck_at da_X2_become 11 rfl) rfl (lv_at hl 0 rfl) ?_
  refine gr_getR X G Y fk_RX2_15 clC_56 rfl (dck_at da_X2_become 12 rfl) ?_
  refine lv_iconst X.1 X.2.1 (dck_at da_X2_become 13 rfl) ki_0 ?_
  refine lv_bipush X.1 X.2.1 (dck_at da_X2_become 14 rfl) kb_6 ?_
  obtain ⟨hin, h⟩ := gI_if h
  refine gr_cpI X G Y hl.1 wm_867 ⟨wm_652, wm_651, wm_67⟩ clC_24 clC_58 hin ⟨Nat.le_of_ble_eq_true rfl, by decide +kernel⟩ (dck_at da_X2_become 15 rfl) (fun H locs Y => ?_)
  refine lv_aload_n X.1 X.2.1 (dck_at da_X2_become 16 rfl) rfl (lv_at hl 1 rfl) ?_
  refine gr_getR X G Y fk_RX2_18 clC_22 rfl (dck_at da_X2_become 17 rfl) ?_
  refine lv_iconst X.1 X.2.1 (dck_at da_X2_become 18 rfl) ki_0 ?_
  refine lv_aload_n X.1 X.2.1 (dck_at da_X2_become 19 rfl) rfl (lv_at hl 0 rfl) ?_
  refine gr_getR X G Y fk_RX2_18 clC_56 rfl (dck_at da_X2_become 20 rfl) ?_
  refine lv_iconst X.1 X.2.1 (dck_at da_X2_become 21 rfl) ki_0 ?_
  refine lv_bipush X.1 X.2.1 (dck_at da_X2_become 22 rfl) kb_6 ?_
  obtain ⟨hin, h⟩ := gI_if h
  refine gr_cpI X G Y hl.1 wm_867 ⟨wm_652, wm_651, wm_67⟩ clC_25 clC_59 hin ⟨Nat.le_of_ble_eq_true rfl, by decide +kernel⟩ (dck_at da_X2_become 23 rfl) (fun H locs Y => ?_)
  refine lv_aload_n X.1 X.2.1 (dck_at da_X2_become 24 rfl) rfl (lv_at hl 0 rfl) ?_
  refine lv_aload_n X.1 X.2.1 (dck_at da_X2_become 25 rfl) rfl (lv_at hl 1 rfl) ?_
  refine gr_getI X G Y fk_RX2_27 clC_22 rfl (dck_at da_X2_become 26 rfl) ?_
  refine gr_putI X G Y fp_RX2_27 clC_56 rfl (dck_at da_X2_become 27 rfl) (fun H locs Y => ?_)
  exact gr_vretO X Y h hr hlk (dck_at da_X2_become 28 rfl)
set_option maxRecDepth 100000 in
set_option maxHeartbeats 4000000 in
theorem ok_c_Book_become {l : Launch} {D : va_G} {cy : Nat → ClassId} {ad sa : Nat → Nat} {A : Nat → Prop} {F : Nat}  {s0 : St} {σ' : St} (h : c_Book_become F s0 = some σ') : gMv l shC D cy ad sa A yX0_become cX0_become 2 none 1 [.ref (ad 62), .ref (ad 28)] s0 σ' := by
  refine gM_of (by decide) (Nat.le_of_ble_eq_true rfl) ?_
  intro p e s m args below meth c ls X G Y hr hlk hl
  have hl : lv_has ls 2 [(0, .ref (ad 62)), (1, .ref (ad 28))] := hl
  unfold c_Book_become at h
  refine lv_aload_n X.1 X.2.1 (dck_at da_X0_become 0 rfl) rfl (lv_at hl 1 rfl) ?_
  refine gr_getR X G Y fk_RX0_11 clC_28 rfl (dck_at da_X0_become 1 rfl) ?_
  refine lv_iconst X.1 X.2.1 (dck_at da_X0_become 2 rfl) ki_0 ?_
  refine lv_aload_n X.1 X.2.1 (dck_at da_X0_become 3 rfl) rfl (lv_at hl 0 rfl) ?_
  refine gr_getR X G Y fk_RX0_11 clC_62 rfl (dck_at da_X0_become 4 rfl) ?_
  refine lv_iconst X.1 X.2.1 (dck_at da_X0_become 5 rfl) ki_0 ?_
  refine lv_bipush X.1 X.2.1 (dck_at da_X0_become 6 rfl) kb_60 ?_
  obtain ⟨hin, h⟩ := gI_if h
  refine gr_cpI X G Y hl.1 wm_1046 ⟨wm_652, wm_651, wm_67⟩ clC_29 clC_63 hin ⟨Nat.le_of_ble_eq_true rfl, by decide +kernel⟩ (dck_at da_X0_become 7 rfl) (fun H locs Y => ?_)
  refine lv_aload_n X.1 X.2.1 (dck_at da_X0_become 8 rfl) rfl (lv_at hl 1 rfl) ?_
  refine gr_getR X G Y fk_RX0_15 clC_28 rfl (dck_at da_X0_become 9 rfl) ?_
  refine lv_iconst X.1 X.2.1 (dck_at da_X0_become 10 rfl) ki_0 ?_
  refine lv_aload_n X.1 X.2.1 (dck_at da_X0_become 11 rfl) rfl (lv_at hl 0 rfl) ?_
  refine gr_getR X G Y fk_RX0_15 clC_62 rfl (dck_at da_X0_become 12 rfl) ?_
  refine lv_iconst X.1 X.2.1 (dck_at da_X0_become 13 rfl) ki_0 ?_
  refine lv_bipush X.1 X.2.1 (dck_at da_X0_become 14 rfl) kb_60 ?_
  obtain ⟨hin, h⟩ := gI_if h
  refine gr_cpI X G Y hl.1 wm_1046 ⟨wm_652, wm_651, wm_67⟩ clC_30 clC_64 hin ⟨Nat.le_of_ble_eq_true rfl, by decide +kernel⟩ (dck_at da_X0_become 15 rfl) (fun H locs Y => ?_)
  refine lv_aload_n X.1 X.2.1 (dck_at da_X0_become 16 rfl) rfl (lv_at hl 1 rfl) ?_
  refine gr_getR X G Y fk_RX0_18 clC_28 rfl (dck_at da_X0_become 17 rfl) ?_
  refine lv_iconst X.1 X.2.1 (dck_at da_X0_become 18 rfl) ki_0 ?_
  refine lv_aload_n X.1 X.2.1 (dck_at da_X0_become 19 rfl) rfl (lv_at hl 0 rfl) ?_
  refine gr_getR X G Y fk_RX0_18 clC_62 rfl (dck_at da_X0_become 20 rfl) ?_
  refine lv_iconst X.1 X.2.1 (dck_at da_X0_become 21 rfl) ki_0 ?_
  refine lv_bipush X.1 X.2.1 (dck_at da_X0_become 22 rfl) kb_60 ?_
  obtain ⟨hin, h⟩ := gI_if h
  refine gr_cpI X G Y hl.1 wm_1046 ⟨wm_652, wm_651, wm_67⟩ clC_31 clC_65 hin ⟨Nat.le_of_ble_eq_true rfl, by decide +kernel⟩ (dck_at da_X0_become 23 rfl) (fun H locs Y => ?_)
  refine lv_aload_n X.1 X.2.1 (dck_at da_X0_become 24 rfl) rfl (lv_at hl 0 rfl) ?_
  refine lv_aload_n X.1 X.2.1 (dck_at da_X0_become 25 rfl) rfl (lv_at hl 1 rfl) ?_
  refine gr_getI X G Y fk_RX0_21 clC_28 rfl (dck_at da_X0_become 26 rfl) ?_
  refine gr_putI X G Y fp_RX0_21 clC_62 rfl (dck_at da_X0_become 27 rfl) (fun H locs Y => ?_)
  exact gr_vretO X Y h hr hlk (dck_at da_X0_become 28 rfl)
set_option maxRecDepth 100000 in
set_option maxHeartbeats 4000000 in
theorem ok_c_Door_become {l : Launch} {D : va_G} {cy : Nat → ClassId} {ad sa : Nat → Nat} {A : Nat → Prop} {F : Nat}  {s0 : St} {σ' : St} (h : c_Door_become F s0 = some σ') : gMv l shC D cy ad sa A yX1_become cX1_become 2 none 1 [.ref (ad 66), .ref (ad 32)] s0 σ' := by
  refine gM_of (by decide) (Nat.le_of_ble_eq_true rfl) ?_
  intro p e s m args below meth c ls X G Y hr hlk hl
  have hl : lv_has ls 2 [(0, .ref (ad 66)), (1, .ref (ad 32))] := hl
  unfold c_Door_become at h
  refine lv_aload_n X.1 X.2.1 (dck_at da_X1_become 0 rfl) rfl (lv_at hl 1 rfl) ?_
  refine gr_getR X G Y fk_RX1_11 clC_32 rfl (dck_at da_X1_become 1 rfl) ?_
  refine lv_iconst X.1 X.2.1 (dck_at da_X1_become 2 rfl) ki_0 ?_
  refine lv_aload_n X.1 X.2.1 (dck_at da_X1_become 3 rfl) rfl (lv_at hl 0 rfl) ?_
  refine gr_getR X G Y fk_RX1_11 clC_66 rfl (dck_at da_X1_become 4 rfl) ?_
  refine lv_iconst X.1 X.2.1 (dck_at da_X1_become 5 rfl) ki_0 ?_
  refine lv_bipush X.1 X.2.1 (dck_at da_X1_become 6 rfl) kb_8 ?_
  obtain ⟨hin, h⟩ := gI_if h
  refine gr_cpI X G Y hl.1 wm_1051 ⟨wm_652, wm_651, wm_67⟩ clC_33 clC_67 hin ⟨Nat.le_of_ble_eq_true rfl, by decide +kernel⟩ (dck_at da_X1_become 7 rfl) (fun H locs Y => ?_)
  refine lv_aload_n X.1 X.2.1 (dck_at da_X1_become 8 rfl) rfl (lv_at hl 1 rfl) ?_
  refine gr_getR X G Y fk_RX1_15 clC_32 rfl (dck_at da_X1_become 9 rfl) ?_
  refine lv_iconst X.1 X.2.1 (dck_at da_X1_become 10 rfl) ki_0 ?_
  refine lv_aload_n X.1 X.2.1 (dck_at da_X1_become 11 rfl) rfl (lv_at hl 0 rfl) ?_
  refine gr_getR X G Y fk_RX1_15 clC_66 rfl (dck_at da_X1_become 12 rfl) ?_
  refine lv_iconst X.1 X.2.1 (dck_at da_X1_become 13 rfl) ki_0 ?_
  refine lv_bipush X.1 X.2.1 (dck_at da_X1_become 14 rfl) kb_8 ?_
  obtain ⟨hin, h⟩ := gI_if h
  refine gr_cpI X G Y hl.1 wm_1051 ⟨wm_652, wm_651, wm_67⟩ clC_34 clC_68 hin ⟨Nat.le_of_ble_eq_true rfl, by decide +kernel⟩ (dck_at da_X1_become 15 rfl) (fun H locs Y => ?_)
  refine lv_aload_n X.1 X.2.1 (dck_at da_X1_become 16 rfl) rfl (lv_at hl 0 rfl) ?_
  refine lv_aload_n X.1 X.2.1 (dck_at da_X1_become 17 rfl) rfl (lv_at hl 1 rfl) ?_
  refine gr_getI X G Y fk_RX1_18 clC_32 rfl (dck_at da_X1_become 18 rfl) ?_
  refine gr_putI X G Y fp_RX1_18 clC_66 rfl (dck_at da_X1_become 19 rfl) (fun H locs Y => ?_)
  exact gr_vretO X Y h hr hlk (dck_at da_X1_become 20 rfl)
set_option maxRecDepth 100000 in
set_option maxHeartbeats 4000000 in
theorem ok_c_State_become {l : Launch} {D : va_G} {cy : Nat → ClassId} {ad sa : Nat → Nat} {A : Nat → Prop} {F : Nat}  {s0 : St} {σ' : St} (h : c_State_become F s0 = some σ') : gMv l shC D cy ad sa A yX8_become cX8_become 2 none 2 [.ref (ad 35), .ref (ad 1)] s0 σ' := by
  refine gM_of (by decide) (Nat.le_of_ble_eq_true rfl) ?_
  intro p e s m args below meth c ls X G Y hr hlk hl
  have hl : lv_has ls 2 [(0, .ref (ad 35)), (1, .ref (ad 1))] := hl
  unfold c_State_become at h
  refine lv_aload_n X.1 X.2.1 (dck_at da_X8_become 0 rfl) rfl (lv_at hl 0 rfl) ?_
  refine gr_getR X G Y fk_RX8_12 clC_35 rfl (dck_at da_X8_become 1 rfl) ?_
  refine lv_aload_n X.1 X.2.1 (dck_at da_X8_become 2 rfl) rfl (lv_at hl 1 rfl) ?_
  refine gr_getR X G Y fk_RX8_12 clC_1 rfl (dck_at da_X8_become 3 rfl) ?_
  obtain ⟨s1, hc, h⟩ := gB_some h
  refine gr_backv Y (gr_runV (as := [.ref (ad 2)]) (rest := []) X G Y (ok_c_Land_become hc) cv_RX8_60 clC_36 ⟨Nat.le_of_ble_eq_true rfl, Nat.le_of_ble_eq_true rfl⟩ rfl hl.1 (Nat.le_of_ble_eq_true rfl) (dck_at da_X8_become 4 rfl)) (fun H locs Y => ?_)
  refine lv_aload_n X.1 X.2.1 (dck_at da_X8_become 5 rfl) rfl (lv_at hl 0 rfl) ?_
  refine gr_getR X G Y fk_RX8_21 clC_35 rfl (dck_at da_X8_become 6 rfl) ?_
  refine lv_aload_n X.1 X.2.1 (dck_at da_X8_become 7 rfl) rfl (lv_at hl 1 rfl) ?_
  refine gr_getR X G Y fk_RX8_21 clC_1 rfl (dck_at da_X8_become 8 rfl) ?_
  obtain ⟨s2, hc, h⟩ := gB_some h
  refine gr_backv Y (gr_runV (as := [.ref (ad 6)]) (rest := []) X G Y (ok_c_Law_become hc) cv_RX8_64 clC_40 ⟨Nat.le_of_ble_eq_true rfl, Nat.le_of_ble_eq_true rfl⟩ rfl hl.1 (Nat.le_of_ble_eq_true rfl) (dck_at da_X8_become 9 rfl)) (fun H locs Y => ?_)
  refine lv_aload_n X.1 X.2.1 (dck_at da_X8_become 10 rfl) rfl (lv_at hl 0 rfl) ?_
  refine gr_getR X G Y fk_RX8_28 clC_35 rfl (dck_at da_X8_become 11 rfl) ?_
  refine lv_aload_n X.1 X.2.1 (dck_at da_X8_become 12 rfl) rfl (lv_at hl 1 rfl) ?_
  refine gr_getR X G Y fk_RX8_28 clC_1 rfl (dck_at da_X8_become 13 rfl) ?_
  obtain ⟨s3, hc, h⟩ := gB_some h
  refine gr_backv Y (gr_runV (as := [.ref (ad 9)]) (rest := []) X G Y (ok_c_Night_become hc) cv_RX8_67 clC_43 ⟨Nat.le_of_ble_eq_true rfl, Nat.le_of_ble_eq_true rfl⟩ rfl hl.1 (Nat.le_of_ble_eq_true rfl) (dck_at da_X8_become 14 rfl)) (fun H locs Y => ?_)
  refine lv_aload_n X.1 X.2.1 (dck_at da_X8_become 15 rfl) rfl (lv_at hl 0 rfl) ?_
  refine gr_getR X G Y fk_RX8_35 clC_35 rfl (dck_at da_X8_become 16 rfl) ?_
  refine lv_aload_n X.1 X.2.1 (dck_at da_X8_become 17 rfl) rfl (lv_at hl 1 rfl) ?_
  refine gr_getR X G Y fk_RX8_35 clC_1 rfl (dck_at da_X8_become 18 rfl) ?_
  obtain ⟨s4, hc, h⟩ := gB_some h
  refine gr_backv Y (gr_runV (as := [.ref (ad 14)]) (rest := []) X G Y (ok_c_Teams_become hc) cv_RX8_70 clC_48 ⟨Nat.le_of_ble_eq_true rfl, Nat.le_of_ble_eq_true rfl⟩ rfl hl.1 (Nat.le_of_ble_eq_true rfl) (dck_at da_X8_become 19 rfl)) (fun H locs Y => ?_)
  refine lv_aload_n X.1 X.2.1 (dck_at da_X8_become 20 rfl) rfl (lv_at hl 0 rfl) ?_
  refine gr_getR X G Y fk_RX8_42 clC_35 rfl (dck_at da_X8_become 21 rfl) ?_
  refine lv_aload_n X.1 X.2.1 (dck_at da_X8_become 22 rfl) rfl (lv_at hl 1 rfl) ?_
  refine gr_getR X G Y fk_RX8_42 clC_1 rfl (dck_at da_X8_become 23 rfl) ?_
  obtain ⟨s5, hc, h⟩ := gB_some h
  refine gr_backv Y (gr_runV (as := [.ref (ad 22)]) (rest := []) X G Y (ok_c_Jobs_become hc) cv_RX8_73 clC_56 ⟨Nat.le_of_ble_eq_true rfl, Nat.le_of_ble_eq_true rfl⟩ rfl hl.1 (Nat.le_of_ble_eq_true rfl) (dck_at da_X8_become 24 rfl)) (fun H locs Y => ?_)
  refine lv_aload_n X.1 X.2.1 (dck_at da_X8_become 25 rfl) rfl (lv_at hl 0 rfl) ?_
  refine gr_getR X G Y fk_RX8_49 clC_35 rfl (dck_at da_X8_become 26 rfl) ?_
  refine lv_aload_n X.1 X.2.1 (dck_at da_X8_become 27 rfl) rfl (lv_at hl 1 rfl) ?_
  refine gr_getR X G Y fk_RX8_49 clC_1 rfl (dck_at da_X8_become 28 rfl) ?_
  obtain ⟨s6, hc, h⟩ := gB_some h
  refine gr_backv Y (gr_runV (as := [.ref (ad 28)]) (rest := []) X G Y (ok_c_Book_become hc) cv_RX8_76 clC_62 ⟨Nat.le_of_ble_eq_true rfl, Nat.le_of_ble_eq_true rfl⟩ rfl hl.1 (Nat.le_of_ble_eq_true rfl) (dck_at da_X8_become 29 rfl)) (fun H locs Y => ?_)
  refine lv_aload_n X.1 X.2.1 (dck_at da_X8_become 30 rfl) rfl (lv_at hl 0 rfl) ?_
  refine gr_getR X G Y fk_RX8_56 clC_35 rfl (dck_at da_X8_become 31 rfl) ?_
  refine lv_aload_n X.1 X.2.1 (dck_at da_X8_become 32 rfl) rfl (lv_at hl 1 rfl) ?_
  refine gr_getR X G Y fk_RX8_56 clC_1 rfl (dck_at da_X8_become 33 rfl) ?_
  obtain ⟨s7, hc, h⟩ := gB_some h
  refine gr_backv Y (gr_runV (as := [.ref (ad 32)]) (rest := []) X G Y (ok_c_Door_become hc) cv_RX8_79 clC_66 ⟨Nat.le_of_ble_eq_true rfl, Nat.le_of_ble_eq_true rfl⟩ rfl hl.1 (Nat.le_of_ble_eq_true rfl) (dck_at da_X8_become 34 rfl)) (fun H locs Y => ?_)
  exact gr_vretO X Y h hr hlk (dck_at da_X8_become 35 rfl)
set_option maxRecDepth 100000 in
set_option maxHeartbeats 4000000 in
theorem ok_c_image {l : Launch} {D : va_G} {cy : Nat → ClassId} {ad sa : Nat → Nat} {A : Nat → Prop} {F : Nat}  {s0 : St} {ρ : Int32} {σ' : St} (h : c_image F s0 = some (ρ, σ')) : gMi l shC D cy ad sa A yX11_image cX11_image 1 (some .int) 3 [.ref (ad 0)] s0 ρ σ' := by
  refine gM_of (by decide) (Nat.le_of_ble_eq_true rfl) ?_
  intro p e s m args below meth c ls X G Y hr hlk hl
  have hl : lv_has ls 1 [(0, .ref (ad 0))] := hl
  unfold c_image at h
  refine lv_aload_n X.1 X.2.1 (dck_at da_X11_image 0 rfl) rfl (lv_at hl 0 rfl) ?_
  refine gr_getR X G Y fk_RX11_16 clC_0 rfl (dck_at da_X11_image 1 rfl) ?_
  refine lv_aload_n X.1 X.2.1 (dck_at da_X11_image 2 rfl) rfl (lv_at hl 0 rfl) ?_
  refine gr_getR X G Y fk_RX11_12 clC_0 rfl (dck_at da_X11_image 3 rfl) ?_
  obtain ⟨s1, hc, h⟩ := gB_some h
  refine gr_backv Y (gr_runV (as := [.ref (ad 1)]) (rest := []) X G Y (ok_c_State_become hc) cv_RX11_318 clC_35 ⟨Nat.le_of_ble_eq_true rfl, Nat.le_of_ble_eq_true rfl⟩ rfl hl.1 (Nat.le_of_ble_eq_true rfl) (dck_at da_X11_image 4 rfl)) (fun H locs Y => ?_)
  refine lv_aload_n X.1 X.2.1 (dck_at da_X11_image 5 rfl) rfl (lv_at hl 0 rfl) ?_
  refine lv_iconst X.1 X.2.1 (dck_at da_X11_image 6 rfl) ki_1 ?_
  refine gr_putZ X G Y (by decide) fp_RX11_44 clC_0 rfl (dck_at da_X11_image 7 rfl) (fun H locs Y => ?_)
  refine lv_iconst X.1 X.2.1 (dck_at da_X11_image 8 rfl) ki_1 ?_
  exact gr_iretO X Y h hr rfl hlk (dck_at da_X11_image 9 rfl)
set_option maxRecDepth 100000 in
set_option maxHeartbeats 4000000 in
theorem ok_c_Land_become_v1 {l : Launch} {D : va_G} {cy : Nat → ClassId} {ad sa : Nat → Nat} {A : Nat → Prop} {F : Nat}  {s0 : St} {σ' : St} (h : c_Land_become_v1 F s0 = some σ') : gMv l shC D cy ad sa A yX3_become cX3_become 2 none 1 [.ref (ad 2), .ref (ad 36)] s0 σ' := by
  refine gM_of (by decide) (Nat.le_of_ble_eq_true rfl) ?_
  intro p e s m args below meth c ls X G Y hr hlk hl
  have hl : lv_has ls 2 [(0, .ref (ad 2)), (1, .ref (ad 36))] := hl
  unfold c_Land_become_v1 at h
  refine lv_aload_n X.1 X.2.1 (dck_at da_X3_become 0 rfl) rfl (lv_at hl 1 rfl) ?_
  refine gr_getR X G Y fk_RX3_9 clC_36 rfl (dck_at da_X3_become 1 rfl) ?_
  refine lv_iconst X.1 X.2.1 (dck_at da_X3_become 2 rfl) ki_0 ?_
  refine lv_aload_n X.1 X.2.1 (dck_at da_X3_become 3 rfl) rfl (lv_at hl 0 rfl) ?_
  refine gr_getR X G Y fk_RX3_9 clC_2 rfl (dck_at da_X3_become 4 rfl) ?_
  refine lv_iconst X.1 X.2.1 (dck_at da_X3_become 5 rfl) ki_0 ?_
  refine lv_sipush X.1 X.2.1 (dck_at da_X3_become 6 rfl) ks_144 ?_
  obtain ⟨hin, h⟩ := gI_if h
  refine gr_cpI X G Y hl.1 wm_1024 ⟨wm_652, wm_651, wm_67⟩ clC_37 clC_3 hin ⟨Nat.le_of_ble_eq_true rfl, by decide +kernel⟩ (dck_at da_X3_become 7 rfl) (fun H locs Y => ?_)
  refine lv_aload_n X.1 X.2.1 (dck_at da_X3_become 8 rfl) rfl (lv_at hl 1 rfl) ?_
  refine gr_getR X G Y fk_RX3_15 clC_36 rfl (dck_at da_X3_become 9 rfl) ?_
  refine lv_iconst X.1 X.2.1 (dck_at da_X3_become 10 rfl) ki_0 ?_
  refine lv_aload_n X.1 X.2.1 (dck_at da_X3_become 11 rfl) rfl (lv_at hl 0 rfl) ?_
  refine gr_getR X G Y fk_RX3_15 clC_2 rfl (dck_at da_X3_become 12 rfl) ?_
  refine lv_iconst X.1 X.2.1 (dck_at da_X3_become 13 rfl) ki_0 ?_
  refine lv_sipush X.1 X.2.1 (dck_at da_X3_become 14 rfl) ks_144 ?_
  obtain ⟨hin, h⟩ := gI_if h
  refine gr_cpI X G Y hl.1 wm_1024 ⟨wm_652, wm_651, wm_67⟩ clC_38 clC_4 hin ⟨Nat.le_of_ble_eq_true rfl, by decide +kernel⟩ (dck_at da_X3_become 15 rfl) (fun H locs Y => ?_)
  refine lv_aload_n X.1 X.2.1 (dck_at da_X3_become 16 rfl) rfl (lv_at hl 1 rfl) ?_
  refine gr_getR X G Y fk_RX3_18 clC_36 rfl (dck_at da_X3_become 17 rfl) ?_
  refine lv_iconst X.1 X.2.1 (dck_at da_X3_become 18 rfl) ki_0 ?_
  refine lv_aload_n X.1 X.2.1 (dck_at da_X3_become 19 rfl) rfl (lv_at hl 0 rfl) ?_
  refine gr_getR X G Y fk_RX3_18 clC_2 rfl (dck_at da_X3_become 20 rfl) ?_
  refine lv_iconst X.1 X.2.1 (dck_at da_X3_become 21 rfl) ki_0 ?_
  refine lv_sipush X.1 X.2.1 (dck_at da_X3_become 22 rfl) ks_144 ?_
  obtain ⟨hin, h⟩ := gI_if h
  refine gr_cpI X G Y hl.1 wm_1024 ⟨wm_652, wm_651, wm_67⟩ clC_39 clC_5 hin ⟨Nat.le_of_ble_eq_true rfl, by decide +kernel⟩ (dck_at da_X3_become 23 rfl) (fun H locs Y => ?_)
  exact gr_vretO X Y h hr hlk (dck_at da_X3_become 24 rfl)
set_option maxRecDepth 100000 in
set_option maxHeartbeats 4000000 in
theorem ok_c_Law_become_v1 {l : Launch} {D : va_G} {cy : Nat → ClassId} {ad sa : Nat → Nat} {A : Nat → Prop} {F : Nat}  {s0 : St} {σ' : St} (h : c_Law_become_v1 F s0 = some σ') : gMv l shC D cy ad sa A yX4_become cX4_become 2 none 1 [.ref (ad 6), .ref (ad 40)] s0 σ' := by
  refine gM_of (by decide) (Nat.le_of_ble_eq_true rfl) ?_
  intro p e s m args below meth c ls X G Y hr hlk hl
  have hl : lv_has ls 2 [(0, .ref (ad 6)), (1, .ref (ad 40))] := hl
  unfold c_Law_become_v1 at h
  refine lv_aload_n X.1 X.2.1 (dck_at da_X4_become 0 rfl) rfl (lv_at hl 1 rfl) ?_
  refine gr_getR X G Y fk_RX4_9 clC_40 rfl (dck_at da_X4_become 1 rfl) ?_
  refine lv_iconst X.1 X.2.1 (dck_at da_X4_become 2 rfl) ki_0 ?_
  refine lv_aload_n X.1 X.2.1 (dck_at da_X4_become 3 rfl) rfl (lv_at hl 0 rfl) ?_
  refine gr_getR X G Y fk_RX4_9 clC_6 rfl (dck_at da_X4_become 4 rfl) ?_
  refine lv_iconst X.1 X.2.1 (dck_at da_X4_become 5 rfl) ki_0 ?_
  refine lv_bipush X.1 X.2.1 (dck_at da_X4_become 6 rfl) kb_10 ?_
  obtain ⟨hin, h⟩ := gI_if h
  refine gr_cpI X G Y hl.1 wm_1029 ⟨wm_652, wm_651, wm_67⟩ clC_41 clC_7 hin ⟨Nat.le_of_ble_eq_true rfl, by decide +kernel⟩ (dck_at da_X4_become 7 rfl) (fun H locs Y => ?_)
  refine lv_aload_n X.1 X.2.1 (dck_at da_X4_become 8 rfl) rfl (lv_at hl 1 rfl) ?_
  refine gr_getR X G Y fk_RX4_15 clC_40 rfl (dck_at da_X4_become 9 rfl) ?_
  refine lv_iconst X.1 X.2.1 (dck_at da_X4_become 10 rfl) ki_0 ?_
  refine lv_aload_n X.1 X.2.1 (dck_at da_X4_become 11 rfl) rfl (lv_at hl 0 rfl) ?_
  refine gr_getR X G Y fk_RX4_15 clC_6 rfl (dck_at da_X4_become 12 rfl) ?_
  refine lv_iconst X.1 X.2.1 (dck_at da_X4_become 13 rfl) ki_0 ?_
  refine lv_bipush X.1 X.2.1 (dck_at da_X4_become 14 rfl) kb_8 ?_
  obtain ⟨hin, h⟩ := gI_if h
  refine gr_cpI X G Y hl.1 wm_1029 ⟨wm_652, wm_651, wm_67⟩ clC_42 clC_8 hin ⟨Nat.le_of_ble_eq_true rfl, by decide +kernel⟩ (dck_at da_X4_become 15 rfl) (fun H locs Y => ?_)
  exact gr_vretO X Y h hr hlk (dck_at da_X4_become 16 rfl)
set_option maxRecDepth 100000 in
set_option maxHeartbeats 4000000 in
theorem ok_c_Night_become_v1 {l : Launch} {D : va_G} {cy : Nat → ClassId} {ad sa : Nat → Nat} {A : Nat → Prop} {F : Nat}  {s0 : St} {σ' : St} (h : c_Night_become_v1 F s0 = some σ') : gMv l shC D cy ad sa A yX6_become cX6_become 2 none 1 [.ref (ad 9), .ref (ad 43)] s0 σ' := by
  refine gM_of (by decide) (Nat.le_of_ble_eq_true rfl) ?_
  intro p e s m args below meth c ls X G Y hr hlk hl
  have hl : lv_has ls 2 [(0, .ref (ad 9)), (1, .ref (ad 43))] := hl
  unfold c_Night_become_v1 at h
  refine lv_aload_n X.1 X.2.1 (dck_at da_X6_become 0 rfl) rfl (lv_at hl 1 rfl) ?_
  refine gr_getR X G Y fk_RX6_9 clC_43 rfl (dck_at da_X6_become 1 rfl) ?_
  refine lv_iconst X.1 X.2.1 (dck_at da_X6_become 2 rfl) ki_0 ?_
  refine lv_aload_n X.1 X.2.1 (dck_at da_X6_become 3 rfl) rfl (lv_at hl 0 rfl) ?_
  refine gr_getR X G Y fk_RX6_9 clC_9 rfl (dck_at da_X6_become 4 rfl) ?_
  refine lv_iconst X.1 X.2.1 (dck_at da_X6_become 5 rfl) ki_0 ?_
  refine lv_sipush X.1 X.2.1 (dck_at da_X6_become 6 rfl) ks_576 ?_
  obtain ⟨hin, h⟩ := gI_if h
  refine gr_cpJ X G Y hl.1 wm_650 ⟨wm_652, wm_651, wm_67⟩ clC_44 clC_10 hin ⟨Nat.le_of_ble_eq_true rfl, by decide +kernel⟩ (dck_at da_X6_become 7 rfl) (fun H locs Y => ?_)
  refine lv_aload_n X.1 X.2.1 (dck_at da_X6_become 8 rfl) rfl (lv_at hl 1 rfl) ?_
  refine gr_getR X G Y fk_RX6_15 clC_43 rfl (dck_at da_X6_become 9 rfl) ?_
  refine lv_iconst X.1 X.2.1 (dck_at da_X6_become 10 rfl) ki_0 ?_
  refine lv_aload_n X.1 X.2.1 (dck_at da_X6_become 11 rfl) rfl (lv_at hl 0 rfl) ?_
  refine gr_getR X G Y fk_RX6_15 clC_9 rfl (dck_at da_X6_become 12 rfl) ?_
  refine lv_iconst X.1 X.2.1 (dck_at da_X6_become 13 rfl) ki_0 ?_
  refine lv_sipush X.1 X.2.1 (dck_at da_X6_become 14 rfl) ks_144 ?_
  obtain ⟨hin, h⟩ := gI_if h
  refine gr_cpJ X G Y hl.1 wm_650 ⟨wm_652, wm_651, wm_67⟩ clC_45 clC_11 hin ⟨Nat.le_of_ble_eq_true rfl, by decide +kernel⟩ (dck_at da_X6_become 15 rfl) (fun H locs Y => ?_)
  refine lv_aload_n X.1 X.2.1 (dck_at da_X6_become 16 rfl) rfl (lv_at hl 0 rfl) ?_
  refine lv_aload_n X.1 X.2.1 (dck_at da_X6_become 17 rfl) rfl (lv_at hl 1 rfl) ?_
  refine gr_getI X G Y fk_RX6_25 clC_43 rfl (dck_at da_X6_become 18 rfl) ?_
  refine gr_putI X G Y fp_RX6_25 clC_9 rfl (dck_at da_X6_become 19 rfl) (fun H locs Y => ?_)
  exact gr_vretO X Y h hr hlk (dck_at da_X6_become 20 rfl)
set_option maxRecDepth 100000 in
set_option maxHeartbeats 4000000 in
theorem ok_c_Teams_become_v1 {l : Launch} {D : va_G} {cy : Nat → ClassId} {ad sa : Nat → Nat} {A : Nat → Prop} {F : Nat}  {s0 : St} {σ' : St} (h : c_Teams_become_v1 F s0 = some σ') : gMv l shC D cy ad sa A yX10_become cX10_become 2 none 1 [.ref (ad 14), .ref (ad 48)] s0 σ' := by
  refine gM_of (by decide) (Nat.le_of_ble_eq_true rfl) ?_
  intro p e s m args below meth c ls X G Y hr hlk hl
  have hl : lv_has ls 2 [(0, .ref (ad 14)), (1, .ref (ad 48))] := hl
  unfold c_Teams_become_v1 at h
  refine lv_aload_n X.1 X.2.1 (dck_at da_X10_become 0 rfl) rfl (lv_at hl 1 rfl) ?_
  refine gr_getR X G Y fk_RX10_11 clC_48 rfl (dck_at da_X10_become 1 rfl) ?_
  refine lv_iconst X.1 X.2.1 (dck_at da_X10_become 2 rfl) ki_0 ?_
  refine lv_aload_n X.1 X.2.1 (dck_at da_X10_become 3 rfl) rfl (lv_at hl 0 rfl) ?_
  refine gr_getR X G Y fk_RX10_11 clC_14 rfl (dck_at da_X10_become 4 rfl) ?_
  refine lv_iconst X.1 X.2.1 (dck_at da_X10_become 5 rfl) ki_0 ?_
  refine lv_iconst X.1 X.2.1 (dck_at da_X10_become 6 rfl) ki_4 ?_
  obtain ⟨hin, h⟩ := gI_if h
  refine gr_cpI X G Y hl.1 wm_794 ⟨wm_652, wm_651, wm_67⟩ clC_49 clC_15 hin ⟨Nat.le_of_ble_eq_true rfl, by decide +kernel⟩ (dck_at da_X10_become 7 rfl) (fun H locs Y => ?_)
  refine lv_aload_n X.1 X.2.1 (dck_at da_X10_become 8 rfl) rfl (lv_at hl 1 rfl) ?_
  refine gr_getR X G Y fk_RX10_15 clC_48 rfl (dck_at da_X10_become 9 rfl) ?_
  refine lv_iconst X.1 X.2.1 (dck_at da_X10_become 10 rfl) ki_0 ?_
  refine lv_aload_n X.1 X.2.1 (dck_at da_X10_become 11 rfl) rfl (lv_at hl 0 rfl) ?_
  refine gr_getR X G Y fk_RX10_15 clC_14 rfl (dck_at da_X10_become 12 rfl) ?_
  refine lv_iconst X.1 X.2.1 (dck_at da_X10_become 13 rfl) ki_0 ?_
  refine lv_iconst X.1 X.2.1 (dck_at da_X10_become 14 rfl) ki_4 ?_
  obtain ⟨hin, h⟩ := gI_if h
  refine gr_cpI X G Y hl.1 wm_794 ⟨wm_652, wm_651, wm_67⟩ clC_50 clC_16 hin ⟨Nat.le_of_ble_eq_true rfl, by decide +kernel⟩ (dck_at da_X10_become 15 rfl) (fun H locs Y => ?_)
  refine lv_aload_n X.1 X.2.1 (dck_at da_X10_become 16 rfl) rfl (lv_at hl 1 rfl) ?_
  refine gr_getR X G Y fk_RX10_18 clC_48 rfl (dck_at da_X10_become 17 rfl) ?_
  refine lv_iconst X.1 X.2.1 (dck_at da_X10_become 18 rfl) ki_0 ?_
  refine lv_aload_n X.1 X.2.1 (dck_at da_X10_become 19 rfl) rfl (lv_at hl 0 rfl) ?_
  refine gr_getR X G Y fk_RX10_18 clC_14 rfl (dck_at da_X10_become 20 rfl) ?_
  refine lv_iconst X.1 X.2.1 (dck_at da_X10_become 21 rfl) ki_0 ?_
  refine lv_iconst X.1 X.2.1 (dck_at da_X10_become 22 rfl) ki_4 ?_
  obtain ⟨hin, h⟩ := gI_if h
  refine gr_cpI X G Y hl.1 wm_794 ⟨wm_652, wm_651, wm_67⟩ clC_51 clC_17 hin ⟨Nat.le_of_ble_eq_true rfl, by decide +kernel⟩ (dck_at da_X10_become 23 rfl) (fun H locs Y => ?_)
  refine lv_aload_n X.1 X.2.1 (dck_at da_X10_become 24 rfl) rfl (lv_at hl 1 rfl) ?_
  refine gr_getR X G Y fk_RX10_21 clC_48 rfl (dck_at da_X10_become 25 rfl) ?_
  refine lv_iconst X.1 X.2.1 (dck_at da_X10_become 26 rfl) ki_0 ?_
  refine lv_aload_n X.1 X.2.1 (dck_at da_X10_become 27 rfl) rfl (lv_at hl 0 rfl) ?_
  refine gr_getR X G Y fk_RX10_21 clC_14 rfl (dck_at da_X10_become 28 rfl) ?_
  refine lv_iconst X.1 X.2.1 (dck_at da_X10_become 29 rfl) ki_0 ?_
  refine lv_bipush X.1 X.2.1 (dck_at da_X10_become 30 rfl) kb_6 ?_
  obtain ⟨hin, h⟩ := gI_if h
  refine gr_cpI X G Y hl.1 wm_794 ⟨wm_652, wm_651, wm_67⟩ clC_52 clC_18 hin ⟨Nat.le_of_ble_eq_true rfl, by decide +kernel⟩ (dck_at da_X10_become 31 rfl) (fun H locs Y => ?_)
  refine lv_aload_n X.1 X.2.1 (dck_at da_X10_become 32 rfl) rfl (lv_at hl 0 rfl) ?_
  refine lv_aload_n X.1 X.2.1 (dck_at da_X10_become 33 rfl) rfl (lv_at hl 1 rfl) ?_
  refine gr_getI X G Y fk_RX10_34 clC_48 rfl (dck_at da_X10_become 34 rfl) ?_
  refine gr_putI X G Y fp_RX10_34 clC_14 rfl (dck_at da_X10_become 35 rfl) (fun H locs Y => ?_)
  refine lv_aload_n X.1 X.2.1 (dck_at da_X10_become 36 rfl) rfl (lv_at hl 0 rfl) ?_
  refine lv_aload_n X.1 X.2.1 (dck_at da_X10_become 37 rfl) rfl (lv_at hl 1 rfl) ?_
  refine gr_getI X G Y fk_RX10_38 clC_48 rfl (dck_at da_X10_become 38 rfl) ?_
  refine gr_putI X G Y fp_RX10_38 clC_14 rfl (dck_at da_X10_become 39 rfl) (fun H locs Y => ?_)
  exact gr_vretO X Y h hr hlk (dck_at da_X10_become 40 rfl)
set_option maxRecDepth 100000 in
set_option maxHeartbeats 4000000 in
theorem ok_c_Jobs_become_v1 {l : Launch} {D : va_G} {cy : Nat → ClassId} {ad sa : Nat → Nat} {A : Nat → Prop} {F : Nat}  {s0 : St} {σ' : St} (h : c_Jobs_become_v1 F s0 = some σ') : gMv l shC D cy ad sa A yX2_become cX2_become 2 none 1 [.ref (ad 22), .ref (ad 56)] s0 σ' := by
  refine gM_of (by decide) (Nat.le_of_ble_eq_true rfl) ?_
  intro p e s m args below meth c ls X G Y hr hlk hl
  have hl : lv_has ls 2 [(0, .ref (ad 22)), (1, .ref (ad 56))] := hl
  unfold c_Jobs_become_v1 at h
  refine lv_aload_n X.1 X.2.1 (dck_at da_X2_become 0 rfl) rfl (lv_at hl 1 rfl) ?_
  refine gr_getR X G Y fk_RX2_11 clC_56 rfl (dck_at da_X2_become 1 rfl) ?_
  refine lv_iconst X.1 X.2.1 (dck_at da_X2_become 2 rfl) ki_0 ?_
  refine lv_aload_n X.1 X.2.1 (dck_at da_X2_become 3 rfl) rfl (lv_at hl 0 rfl) ?_
  refine gr_getR X G Y fk_RX2_11 clC_22 rfl (dck_at da_X2_become 4 rfl) ?_
  refine lv_iconst X.1 X.2.1 (dck_at da_X2_become 5 rfl) ki_0 ?_
  refine lv_bipush X.1 X.2.1 (dck_at da_X2_become 6 rfl) kb_6 ?_
  obtain ⟨hin, h⟩ := gI_if h
  refine gr_cpI X G Y hl.1 wm_867 ⟨wm_652, wm_651, wm_67⟩ clC_57 clC_23 hin ⟨Nat.le_of_ble_eq_true rfl, by decide +kernel⟩ (dck_at da_X2_become 7 rfl) (fun H locs Y => ?_)
  refine lv_aload_n X.1 X.2.1 (dck_at da_X2_become 8 rfl) rfl (lv_at hl 1 rfl) ?_
  refine gr_getR X G Y fk_RX2_15 clC_56 rfl (dck_at da_X2_become 9 rfl) ?_
  refine lv_iconst X.1 X.2.1 (dck_at da_X2_become 10 rfl) ki_0 ?_
  refine lv_aload_n X.1 X.2.1 (dck_at da_X2_become 11 rfl) rfl (lv_at hl 0 rfl) ?_
  refine gr_getR X G Y fk_RX2_15 clC_22 rfl (dck_at da_X2_become 12 rfl) ?_
  refine lv_iconst X.1 X.2.1 (dck_at da_X2_become 13 rfl) ki_0 ?_
  refine lv_bipush X.1 X.2.1 (dck_at da_X2_become 14 rfl) kb_6 ?_
  obtain ⟨hin, h⟩ := gI_if h
  refine gr_cpI X G Y hl.1 wm_867 ⟨wm_652, wm_651, wm_67⟩ clC_58 clC_24 hin ⟨Nat.le_of_ble_eq_true rfl, by decide +kernel⟩ (dck_at da_X2_become 15 rfl) (fun H locs Y => ?_)
  refine lv_aload_n X.1 X.2.1 (dck_at da_X2_become 16 rfl) rfl (lv_at hl 1 rfl) ?_
  refine gr_getR X G Y fk_RX2_18 clC_56 rfl (dck_at da_X2_become 17 rfl) ?_
  refine lv_iconst X.1 X.2.1 (dck_at da_X2_become 18 rfl) ki_0 ?_
  refine lv_aload_n X.1 X.2.1 (dck_at da_X2_become 19 rfl) rfl (lv_at hl 0 rfl) ?_
  refine gr_getR X G Y fk_RX2_18 clC_22 rfl (dck_at da_X2_become 20 rfl) ?_
  refine lv_iconst X.1 X.2.1 (dck_at da_X2_become 21 rfl) ki_0 ?_
  refine lv_bipush X.1 X.2.1 (dck_at da_X2_become 22 rfl) kb_6 ?_
  obtain ⟨hin, h⟩ := gI_if h
  refine gr_cpI X G Y hl.1 wm_867 ⟨wm_652, wm_651, wm_67⟩ clC_59 clC_25 hin ⟨Nat.le_of_ble_eq_true rfl, by decide +kernel⟩ (dck_at da_X2_become 23 rfl) (fun H locs Y => ?_)
  refine lv_aload_n X.1 X.2.1 (dck_at da_X2_become 24 rfl) rfl (lv_at hl 0 rfl) ?_
  refine lv_aload_n X.1 X.2.1 (dck_at da_X2_become 25 rfl) rfl (lv_at hl 1 rfl) ?_
  refine gr_getI X G Y fk_RX2_27 clC_56 rfl (dck_at da_X2_become 26 rfl) ?_
  refine gr_putI X G Y fp_RX2_27 clC_22 rfl (dck_at da_X2_become 27 rfl) (fun H locs Y => ?_)
  exact gr_vretO X Y h hr hlk (dck_at da_X2_become 28 rfl)
set_option maxRecDepth 100000 in
set_option maxHeartbeats 4000000 in
theorem ok_c_Book_become_v1 {l : Launch} {D : va_G} {cy : Nat → ClassId} {ad sa : Nat → Nat} {A : Nat → Prop} {F : Nat}  {s0 : St} {σ' : St} (h : c_Book_become_v1 F s0 = some σ') : gMv l shC D cy ad sa A yX0_become cX0_become 2 none 1 [.ref (ad 28), .ref (ad 62)] s0 σ' := by
  refine gM_of (by decide) (Nat.le_of_ble_eq_true rfl) ?_
  intro p e s m args below meth c ls X G Y hr hlk hl
  have hl : lv_has ls 2 [(0, .ref (ad 28)), (1, .ref (ad 62))] := hl
  unfold c_Book_become_v1 at h
  refine lv_aload_n X.1 X.2.1 (dck_at da_X0_become 0 rfl) rfl (lv_at hl 1 rfl) ?_
  refine gr_getR X G Y fk_RX0_11 clC_62 rfl (dck_at da_X0_become 1 rfl) ?_
  refine lv_iconst X.1 X.2.1 (dck_at da_X0_become 2 rfl) ki_0 ?_
  refine lv_aload_n X.1 X.2.1 (dck_at da_X0_become 3 rfl) rfl (lv_at hl 0 rfl) ?_
  refine gr_getR X G Y fk_RX0_11 clC_28 rfl (dck_at da_X0_become 4 rfl) ?_
  refine lv_iconst X.1 X.2.1 (dck_at da_X0_become 5 rfl) ki_0 ?_
  refine lv_bipush X.1 X.2.1 (dck_at da_X0_become 6 rfl) kb_60 ?_
  obtain ⟨hin, h⟩ := gI_if h
  refine gr_cpI X G Y hl.1 wm_1046 ⟨wm_652, wm_651, wm_67⟩ clC_63 clC_29 hin ⟨Nat.le_of_ble_eq_true rfl, by decide +kernel⟩ (dck_at da_X0_become 7 rfl) (fun H locs Y => ?_)
  refine lv_aload_n X.1 X.2.1 (dck_at da_X0_become 8 rfl) rfl (lv_at hl 1 rfl) ?_
  refine gr_getR X G Y fk_RX0_15 clC_62 rfl (dck_at da_X0_become 9 rfl) ?_
  refine lv_iconst X.1 X.2.1 (dck_at da_X0_become 10 rfl) ki_0 ?_
  refine lv_aload_n X.1 X.2.1 (dck_at da_X0_become 11 rfl) rfl (lv_at hl 0 rfl) ?_
  refine gr_getR X G Y fk_RX0_15 clC_28 rfl (dck_at da_X0_become 12 rfl) ?_
  refine lv_iconst X.1 X.2.1 (dck_at da_X0_become 13 rfl) ki_0 ?_
  refine lv_bipush X.1 X.2.1 (dck_at da_X0_become 14 rfl) kb_60 ?_
  obtain ⟨hin, h⟩ := gI_if h
  refine gr_cpI X G Y hl.1 wm_1046 ⟨wm_652, wm_651, wm_67⟩ clC_64 clC_30 hin ⟨Nat.le_of_ble_eq_true rfl, by decide +kernel⟩ (dck_at da_X0_become 15 rfl) (fun H locs Y => ?_)
  refine lv_aload_n X.1 X.2.1 (dck_at da_X0_become 16 rfl) rfl (lv_at hl 1 rfl) ?_
  refine gr_getR X G Y fk_RX0_18 clC_62 rfl (dck_at da_X0_become 17 rfl) ?_
  refine lv_iconst X.1 X.2.1 (dck_at da_X0_become 18 rfl) ki_0 ?_
  refine lv_aload_n X.1 X.2.1 (dck_at da_X0_become 19 rfl) rfl (lv_at hl 0 rfl) ?_
  refine gr_getR X G Y fk_RX0_18 clC_28 rfl (dck_at da_X0_become 20 rfl) ?_
  refine lv_iconst X.1 X.2.1 (dck_at da_X0_become 21 rfl) ki_0 ?_
  refine lv_bipush X.1 X.2.1 (dck_at da_X0_become 22 rfl) kb_60 ?_
  obtain ⟨hin, h⟩ := gI_if h
  refine gr_cpI X G Y hl.1 wm_1046 ⟨wm_652, wm_651, wm_67⟩ clC_65 clC_31 hin ⟨Nat.le_of_ble_eq_true rfl, by decide +kernel⟩ (dck_at da_X0_become 23 rfl) (fun H locs Y => ?_)
  refine lv_aload_n X.1 X.2.1 (dck_at da_X0_become 24 rfl) rfl (lv_at hl 0 rfl) ?_
  refine lv_aload_n X.1 X.2.1 (dck_at da_X0_become 25 rfl) rfl (lv_at hl 1 rfl) ?_
  refine gr_getI X G Y fk_RX0_21 clC_62 rfl (dck_at da_X0_become 26 rfl) ?_
  refine gr_putI X G Y fp_RX0_21 clC_28 rfl (dck_at da_X0_become 27 rfl) (fun H locs Y => ?_)
  exact gr_vretO X Y h hr hlk (dck_at da_X0_become 28 rfl)
set_option maxRecDepth 100000 in
set_option maxHeartbeats 4000000 in
theorem ok_c_Door_become_v1 {l : Launch} {D : va_G} {cy : Nat → ClassId} {ad sa : Nat → Nat} {A : Nat → Prop} {F : Nat}  {s0 : St} {σ' : St} (h : c_Door_become_v1 F s0 = some σ') : gMv l shC D cy ad sa A yX1_become cX1_become 2 none 1 [.ref (ad 32), .ref (ad 66)] s0 σ' := by
  refine gM_of (by decide) (Nat.le_of_ble_eq_true rfl) ?_
  intro p e s m args below meth c ls X G Y hr hlk hl
  have hl : lv_has ls 2 [(0, .ref (ad 32)), (1, .ref (ad 66))] := hl
  unfold c_Door_become_v1 at h
  refine lv_aload_n X.1 X.2.1 (dck_at da_X1_become 0 rfl) rfl (lv_at hl 1 rfl) ?_
  refine gr_getR X G Y fk_RX1_11 clC_66 rfl (dck_at da_X1_become 1 rfl) ?_
  refine lv_iconst X.1 X.2.1 (dck_at da_X1_become 2 rfl) ki_0 ?_
  refine lv_aload_n X.1 X.2.1 (dck_at da_X1_become 3 rfl) rfl (lv_at hl 0 rfl) ?_
  refine gr_getR X G Y fk_RX1_11 clC_32 rfl (dck_at da_X1_become 4 rfl) ?_
  refine lv_iconst X.1 X.2.1 (dck_at da_X1_become 5 rfl) ki_0 ?_
  refine lv_bipush X.1 X.2.1 (dck_at da_X1_become 6 rfl) kb_8 ?_
  obtain ⟨hin, h⟩ := gI_if h
  refine gr_cpI X G Y hl.1 wm_1051 ⟨wm_652, wm_651, wm_67⟩ clC_67 clC_33 hin ⟨Nat.le_of_ble_eq_true rfl, by decide +kernel⟩ (dck_at da_X1_become 7 rfl) (fun H locs Y => ?_)
  refine lv_aload_n X.1 X.2.1 (dck_at da_X1_become 8 rfl) rfl (lv_at hl 1 rfl) ?_
  refine gr_getR X G Y fk_RX1_15 clC_66 rfl (dck_at da_X1_become 9 rfl) ?_
  refine lv_iconst X.1 X.2.1 (dck_at da_X1_become 10 rfl) ki_0 ?_
  refine lv_aload_n X.1 X.2.1 (dck_at da_X1_become 11 rfl) rfl (lv_at hl 0 rfl) ?_
  refine gr_getR X G Y fk_RX1_15 clC_32 rfl (dck_at da_X1_become 12 rfl) ?_
  refine lv_iconst X.1 X.2.1 (dck_at da_X1_become 13 rfl) ki_0 ?_
  refine lv_bipush X.1 X.2.1 (dck_at da_X1_become 14 rfl) kb_8 ?_
  obtain ⟨hin, h⟩ := gI_if h
  refine gr_cpI X G Y hl.1 wm_1051 ⟨wm_652, wm_651, wm_67⟩ clC_68 clC_34 hin ⟨Nat.le_of_ble_eq_true rfl, by decide +kernel⟩ (dck_at da_X1_become 15 rfl) (fun H locs Y => ?_)
  refine lv_aload_n X.1 X.2.1 (dck_at da_X1_become 16 rfl) rfl (lv_at hl 0 rfl) ?_
  refine lv_aload_n X.1 X.2.1 (dck_at da_X1_become 17 rfl) rfl (lv_at hl 1 rfl) ?_
  refine gr_getI X G Y fk_RX1_18 clC_66 rfl (dck_at da_X1_become 18 rfl) ?_
  refine gr_putI X G Y fp_RX1_18 clC_32 rfl (dck_at da_X1_become 19 rfl) (fun H locs Y => ?_)
  exact gr_vretO X Y h hr hlk (dck_at da_X1_become 20 rfl)
set_option maxRecDepth 100000 in
set_option maxHeartbeats 4000000 in
theorem ok_c_State_become_v1 {l : Launch} {D : va_G} {cy : Nat → ClassId} {ad sa : Nat → Nat} {A : Nat → Prop} {F : Nat}  {s0 : St} {σ' : St} (h : c_State_become_v1 F s0 = some σ') : gMv l shC D cy ad sa A yX8_become cX8_become 2 none 2 [.ref (ad 1), .ref (ad 35)] s0 σ' := by
  refine gM_of (by decide) (Nat.le_of_ble_eq_true rfl) ?_
  intro p e s m args below meth c ls X G Y hr hlk hl
  have hl : lv_has ls 2 [(0, .ref (ad 1)), (1, .ref (ad 35))] := hl
  unfold c_State_become_v1 at h
  refine lv_aload_n X.1 X.2.1 (dck_at da_X8_become 0 rfl) rfl (lv_at hl 0 rfl) ?_
  refine gr_getR X G Y fk_RX8_12 clC_1 rfl (dck_at da_X8_become 1 rfl) ?_
  refine lv_aload_n X.1 X.2.1 (dck_at da_X8_become 2 rfl) rfl (lv_at hl 1 rfl) ?_
  refine gr_getR X G Y fk_RX8_12 clC_35 rfl (dck_at da_X8_become 3 rfl) ?_
  obtain ⟨s1, hc, h⟩ := gB_some h
  refine gr_backv Y (gr_runV (as := [.ref (ad 36)]) (rest := []) X G Y (ok_c_Land_become_v1 hc) cv_RX8_60 clC_2 ⟨Nat.le_of_ble_eq_true rfl, Nat.le_of_ble_eq_true rfl⟩ rfl hl.1 (Nat.le_of_ble_eq_true rfl) (dck_at da_X8_become 4 rfl)) (fun H locs Y => ?_)
  refine lv_aload_n X.1 X.2.1 (dck_at da_X8_become 5 rfl) rfl (lv_at hl 0 rfl) ?_
  refine gr_getR X G Y fk_RX8_21 clC_1 rfl (dck_at da_X8_become 6 rfl) ?_
  refine lv_aload_n X.1 X.2.1 (dck_at da_X8_become 7 rfl) rfl (lv_at hl 1 rfl) ?_
  refine gr_getR X G Y fk_RX8_21 clC_35 rfl (dck_at da_X8_become 8 rfl) ?_
  obtain ⟨s2, hc, h⟩ := gB_some h
  refine gr_backv Y (gr_runV (as := [.ref (ad 40)]) (rest := []) X G Y (ok_c_Law_become_v1 hc) cv_RX8_64 clC_6 ⟨Nat.le_of_ble_eq_true rfl, Nat.le_of_ble_eq_true rfl⟩ rfl hl.1 (Nat.le_of_ble_eq_true rfl) (dck_at da_X8_become 9 rfl)) (fun H locs Y => ?_)
  refine lv_aload_n X.1 X.2.1 (dck_at da_X8_become 10 rfl) rfl (lv_at hl 0 rfl) ?_
  refine gr_getR X G Y fk_RX8_28 clC_1 rfl (dck_at da_X8_become 11 rfl) ?_
  refine lv_aload_n X.1 X.2.1 (dck_at da_X8_become 12 rfl) rfl (lv_at hl 1 rfl) ?_
  refine gr_getR X G Y fk_RX8_28 clC_35 rfl (dck_at da_X8_become 13 rfl) ?_
  obtain ⟨s3, hc, h⟩ := gB_some h
  refine gr_backv Y (gr_runV (as := [.ref (ad 43)]) (rest := []) X G Y (ok_c_Night_become_v1 hc) cv_RX8_67 clC_9 ⟨Nat.le_of_ble_eq_true rfl, Nat.le_of_ble_eq_true rfl⟩ rfl hl.1 (Nat.le_of_ble_eq_true rfl) (dck_at da_X8_become 14 rfl)) (fun H locs Y => ?_)
  refine lv_aload_n X.1 X.2.1 (dck_at da_X8_become 15 rfl) rfl (lv_at hl 0 rfl) ?_
  refine gr_getR X G Y fk_RX8_35 clC_1 rfl (dck_at da_X8_become 16 rfl) ?_
  refine lv_aload_n X.1 X.2.1 (dck_at da_X8_become 17 rfl) rfl (lv_at hl 1 rfl) ?_
  refine gr_getR X G Y fk_RX8_35 clC_35 rfl (dck_at da_X8_become 18 rfl) ?_
  obtain ⟨s4, hc, h⟩ := gB_some h
  refine gr_backv Y (gr_runV (as := [.ref (ad 48)]) (rest := []) X G Y (ok_c_Teams_become_v1 hc) cv_RX8_70 clC_14 ⟨Nat.le_of_ble_eq_true rfl, Nat.le_of_ble_eq_true rfl⟩ rfl hl.1 (Nat.le_of_ble_eq_true rfl) (dck_at da_X8_become 19 rfl)) (fun H locs Y => ?_)
  refine lv_aload_n X.1 X.2.1 (dck_at da_X8_become 20 rfl) rfl (lv_at hl 0 rfl) ?_
  refine gr_getR X G Y fk_RX8_42 clC_1 rfl (dck_at da_X8_become 21 rfl) ?_
  refine lv_aload_n X.1 X.2.1 (dck_at da_X8_become 22 rfl) rfl (lv_at hl 1 rfl) ?_
  refine gr_getR X G Y fk_RX8_42 clC_35 rfl (dck_at da_X8_become 23 rfl) ?_
  obtain ⟨s5, hc, h⟩ := gB_some h
  refine gr_backv Y (gr_runV (as := [.ref (ad 56)]) (rest := []) X G Y (ok_c_Jobs_become_v1 hc) cv_RX8_73 clC_22 ⟨Nat.le_of_ble_eq_true rfl, Nat.le_of_ble_eq_true rfl⟩ rfl hl.1 (Nat.le_of_ble_eq_true rfl) (dck_at da_X8_become 24 rfl)) (fun H locs Y => ?_)
  refine lv_aload_n X.1 X.2.1 (dck_at da_X8_become 25 rfl) rfl (lv_at hl 0 rfl) ?_
  refine gr_getR X G Y fk_RX8_49 clC_1 rfl (dck_at da_X8_become 26 rfl) ?_
  refine lv_aload_n X.1 X.2.1 (dck_at da_X8_become 27 rfl) rfl (lv_at hl 1 rfl) ?_
  refine gr_getR X G Y fk_RX8_49 clC_35 rfl (dck_at da_X8_become 28 rfl) ?_
  obtain ⟨s6, hc, h⟩ := gB_some h
  refine gr_backv Y (gr_runV (as := [.ref (ad 62)]) (rest := []) X G Y (ok_c_Book_become_v1 hc) cv_RX8_76 clC_28 ⟨Nat.le_of_ble_eq_true rfl, Nat.le_of_ble_eq_true rfl⟩ rfl hl.1 (Nat.le_of_ble_eq_true rfl) (dck_at da_X8_become 29 rfl)) (fun H locs Y => ?_)
  refine lv_aload_n X.1 X.2.1 (dck_at da_X8_become 30 rfl) rfl (lv_at hl 0 rfl) ?_
  refine gr_getR X G Y fk_RX8_56 clC_1 rfl (dck_at da_X8_become 31 rfl) ?_
  refine lv_aload_n X.1 X.2.1 (dck_at da_X8_become 32 rfl) rfl (lv_at hl 1 rfl) ?_
  refine gr_getR X G Y fk_RX8_56 clC_35 rfl (dck_at da_X8_become 33 rfl) ?_
  obtain ⟨s7, hc, h⟩ := gB_some h
  refine gr_backv Y (gr_runV (as := [.ref (ad 66)]) (rest := []) X G Y (ok_c_Door_become_v1 hc) cv_RX8_79 clC_32 ⟨Nat.le_of_ble_eq_true rfl, Nat.le_of_ble_eq_true rfl⟩ rfl hl.1 (Nat.le_of_ble_eq_true rfl) (dck_at da_X8_become 34 rfl)) (fun H locs Y => ?_)
  exact gr_vretO X Y h hr hlk (dck_at da_X8_become 35 rfl)
set_option maxRecDepth 100000 in
set_option maxHeartbeats 4000000 in
theorem ok_c_restore {l : Launch} {D : va_G} {cy : Nat → ClassId} {ad sa : Nat → Nat} {A : Nat → Prop} {F : Nat}  {s0 : St} {ρ : Int32} {σ' : St} (h : c_restore F s0 = some (ρ, σ')) : gMi l shC D cy ad sa A yX11_restore cX11_restore 1 (some .int) 3 [.ref (ad 0)] s0 ρ σ' := by
  refine gM_of (by decide) (Nat.le_of_ble_eq_true rfl) ?_
  intro p e s m args below meth c ls X G Y hr hlk hl
  have hl : lv_has ls 1 [(0, .ref (ad 0))] := hl
  unfold c_restore at h
  refine lv_aload_n X.1 X.2.1 (dck_at da_X11_restore 0 rfl) rfl (lv_at hl 0 rfl) ?_
  refine gr_getI X G Y fk_RX11_44 clC_0 rfl (dck_at da_X11_restore 1 rfl) ?_
  refine lv_if_ne (tgt := 14) X.1 X.2.1 (dck_at da_X11_restore 2 rfl) rfl (fun c => ?_) (fun c => ?_)
  · have h := gI_neg h c
    refine lv_aload_n X.1 X.2.1 (dck_at da_X11_restore 7 rfl) rfl (lv_at hl 0 rfl) ?_
    refine gr_getR X G Y fk_RX11_12 clC_0 rfl (dck_at da_X11_restore 8 rfl) ?_
    refine lv_aload_n X.1 X.2.1 (dck_at da_X11_restore 9 rfl) rfl (lv_at hl 0 rfl) ?_
    refine gr_getR X G Y fk_RX11_16 clC_0 rfl (dck_at da_X11_restore 10 rfl) ?_
    obtain ⟨s1, hc, h⟩ := gB_some h
    refine gr_backv Y (gr_runV (as := [.ref (ad 35)]) (rest := []) X G Y (ok_c_State_become_v1 hc) cv_RX11_318 clC_1 ⟨Nat.le_of_ble_eq_true rfl, Nat.le_of_ble_eq_true rfl⟩ rfl hl.1 (Nat.le_of_ble_eq_true rfl) (dck_at da_X11_restore 11 rfl)) (fun H locs Y => ?_)
    refine lv_iconst X.1 X.2.1 (dck_at da_X11_restore 12 rfl) ki_1 ?_
    exact gr_iretO X Y h hr rfl hlk (dck_at da_X11_restore 13 rfl)
  · have h := gI_pos h c
    refine lv_aload_n X.1 X.2.1 (dck_at da_X11_restore 3 rfl) rfl (lv_at hl 0 rfl) ?_
    refine lv_bipush X.1 X.2.1 (dck_at da_X11_restore 4 rfl) kb_m4 ?_
    obtain ⟨r2, s2, hc, h⟩ := gB2_some h
    refine gr_backi Y (gr_runV (as := [.int (-4 : Int32)]) (rest := []) X G Y (ok_c_refuse hc) cv_RX11_55 clC_0 ⟨Nat.le_of_ble_eq_true rfl, Nat.le_of_ble_eq_true rfl⟩ rfl hl.1 (Nat.le_of_ble_eq_true rfl) (dck_at da_X11_restore 5 rfl)) (fun H locs Y => ?_)
    exact gr_iretO X Y h hr rfl hlk (dck_at da_X11_restore 6 rfl)
set_option maxRecDepth 100000 in
set_option maxHeartbeats 4000000 in
theorem ok_c_status {l : Launch} {D : va_G} {cy : Nat → ClassId} {ad sa : Nat → Nat} {A : Nat → Prop} {F : Nat} {a1 : Int32} {s0 : St} {ρ : Int32} {σ' : St} (h : c_status F a1 s0 = some (ρ, σ')) : gMi l shC D cy ad sa A yX11_status cX11_status 2 (some .int) 3 [.ref (ad 0), .int a1] s0 ρ σ' := by
  refine gM_of (by decide) (Nat.le_of_ble_eq_true rfl) ?_
  intro p e s m args below meth c ls X G Y hr hlk hl
  have hl : lv_has ls 2 [(0, .ref (ad 0)), (1, .int a1)] := hl
  unfold c_status at h
  refine lv_iload_n X.1 X.2.1 (dck_at da_X11_status 0 rfl) rfl (lv_at hl 1 rfl) ?_
  refine lv_iconst X.1 X.2.1 (dck_at da_X11_status 1 rfl) ki_0 ?_
  refine lv_bipush X.1 X.2.1 (dck_at da_X11_status 2 rfl) kb_8 ?_
  obtain ⟨r1, s1, hc, h⟩ := gB2_some h
  refine gr_backi Y (gr_runS (as := [.int a1, .int (0 : Int32), .int (8 : Int32)]) (rest := []) X G Y (ok_c_isIn hc) cs_RX11_68 ⟨Nat.le_of_ble_eq_true rfl, Nat.le_of_ble_eq_true rfl⟩ rfl hl.1 (Nat.le_of_ble_eq_true rfl) (dck_at da_X11_status 3 rfl)) (fun H locs Y => ?_)
  refine lv_if_eq (tgt := 19) X.1 X.2.1 (dck_at da_X11_status 4 rfl) rfl (fun c => ?_) (fun c => ?_)
  · have h := gI_pos h c
    refine lv_aload_n X.1 X.2.1 (dck_at da_X11_status 10 rfl) rfl (lv_at hl 0 rfl) ?_
    refine lv_iconst X.1 X.2.1 (dck_at da_X11_status 11 rfl) ki_m1 ?_
    obtain ⟨r2, s2, hc, h⟩ := gB2_some h
    refine gr_backi Y (gr_runV (as := [.int (-1 : Int32)]) (rest := []) X G Y (ok_c_refuse hc) cv_RX11_55 clC_0 ⟨Nat.le_of_ble_eq_true rfl, Nat.le_of_ble_eq_true rfl⟩ rfl hl.1 (Nat.le_of_ble_eq_true rfl) (dck_at da_X11_status 12 rfl)) (fun H locs Y => ?_)
    exact gr_iretO X Y h hr rfl hlk (dck_at da_X11_status 13 rfl)
  · have h := gI_neg h c
    refine lv_aload_n X.1 X.2.1 (dck_at da_X11_status 5 rfl) rfl (lv_at hl 0 rfl) ?_
    refine gr_getR X G Y fk_RX11_40 clC_0 rfl (dck_at da_X11_status 6 rfl) ?_
    refine lv_iload_n X.1 X.2.1 (dck_at da_X11_status 7 rfl) rfl (lv_at hl 1 rfl) ?_
    obtain ⟨hin, h⟩ := gI_if h
    refine gr_iald X G Y clC_80 hin (dck_at da_X11_status 8 rfl) ?_
    refine lv_goto (tgt := 24) X.1 X.2.1 (dck_at da_X11_status 9 rfl) rfl ?_
    exact gr_iretO X Y h hr rfl hlk (dck_at da_X11_status 13 rfl)
set_option maxRecDepth 100000 in
set_option maxHeartbeats 4000000 in
theorem ok_c_Sheets_at {l : Launch} {D : va_G} {cy : Nat → ClassId} {ad sa : Nat → Nat} {A : Nat → Prop} {F : Nat} {a1 : Int32} {a2 : Int32} {s0 : St} {ρ : Int64} {σ' : St} (h : c_Sheets_at F a1 a2 s0 = some (ρ, σ')) : gMl l shC D cy ad sa A yX7_at cX7_at 3 (some .long) 1 [.ref (ad 76), .int a1, .int a2] s0 ρ σ' := by
  refine gM_of (by decide) (Nat.le_of_ble_eq_true rfl) ?_
  intro p e s m args below meth c ls X G Y hr hlk hl
  have hl : lv_has ls 3 [(0, .ref (ad 76)), (1, .int a1), (2, .int a2)] := hl
  unfold c_Sheets_at at h
  refine lv_aload_n X.1 X.2.1 (dck_at da_X7_at 0 rfl) rfl (lv_at hl 0 rfl) ?_
  refine gr_getR X G Y fk_RX7_11 clC_76 rfl (dck_at da_X7_at 1 rfl) ?_
  refine lv_iload_n X.1 X.2.1 (dck_at da_X7_at 2 rfl) rfl (lv_at hl 1 rfl) ?_
  refine lv_bipush X.1 X.2.1 (dck_at da_X7_at 3 rfl) kb_24 ?_
  refine lv_imul X.1 X.2.1 (dck_at da_X7_at 4 rfl) ?_
  refine lv_iload_n X.1 X.2.1 (dck_at da_X7_at 5 rfl) rfl (lv_at hl 2 rfl) ?_
  refine lv_iadd X.1 X.2.1 (dck_at da_X7_at 6 rfl) ?_
  obtain ⟨hin, h⟩ := gI_if h
  refine gr_lald X G Y clC_77 hin (dck_at da_X7_at 7 rfl) ?_
  exact gr_lretO X Y h hr hlk (dck_at da_X7_at 8 rfl)
set_option maxRecDepth 100000 in
set_option maxHeartbeats 4000000 in
theorem ok_c_Sheets_isSheet {l : Launch} {D : va_G} {cy : Nat → ClassId} {ad sa : Nat → Nat} {A : Nat → Prop} {F : Nat} {a0 : Int32} {s0 : St} {ρ : Int32} {σ' : St} (h : c_Sheets_isSheet F a0 s0 = some (ρ, σ')) : gMi l shC D cy ad sa A yX7_isSheet cX7_isSheet 1 (some .boolean) 2 [.int a0] s0 ρ σ' := by
  refine gM_of (by decide) (Nat.le_of_ble_eq_true rfl) ?_
  intro p e s m args below meth c ls X G Y hr hlk hl
  have hl : lv_has ls 1 [(0, .int a0)] := hl
  unfold c_Sheets_isSheet at h
  refine lv_iload_n X.1 X.2.1 (dck_at da_X7_isSheet 0 rfl) rfl (lv_at hl 0 rfl) ?_
  refine lv_iconst X.1 X.2.1 (dck_at da_X7_isSheet 1 rfl) ki_0 ?_
  refine lv_iconst X.1 X.2.1 (dck_at da_X7_isSheet 2 rfl) ki_3 ?_
  obtain ⟨r1, s1, hc, h⟩ := gB2_some h
  refine gr_backi Y (gr_runN (as := [.int a0, .int (0 : Int32), .int (3 : Int32)]) (rest := []) X G Y (ok_c_isIn hc) cn_RX7_22 ⟨Nat.le_of_ble_eq_true rfl, Nat.le_of_ble_eq_true rfl⟩ rfl hl.1 (Nat.le_of_ble_eq_true rfl) (dck_at da_X7_isSheet 3 rfl)) (fun H locs Y => ?_)
  obtain ⟨hz, h⟩ := gI_if h
  exact gr_iretO X Y h hr (gz_nar hz) hlk (dck_at da_X7_isSheet 4 rfl)
set_option maxRecDepth 100000 in
set_option maxHeartbeats 4000000 in
theorem ok_c_Sheets_isLane {l : Launch} {D : va_G} {cy : Nat → ClassId} {ad sa : Nat → Nat} {A : Nat → Prop} {F : Nat} {a0 : Int32} {s0 : St} {ρ : Int32} {σ' : St} (h : c_Sheets_isLane F a0 s0 = some (ρ, σ')) : gMi l shC D cy ad sa A yX7_isLane cX7_isLane 1 (some .boolean) 2 [.int a0] s0 ρ σ' := by
  refine gM_of (by decide) (Nat.le_of_ble_eq_true rfl) ?_
  intro p e s m args below meth c ls X G Y hr hlk hl
  have hl : lv_has ls 1 [(0, .int a0)] := hl
  unfold c_Sheets_isLane at h
  refine lv_iload_n X.1 X.2.1 (dck_at da_X7_isLane 0 rfl) rfl (lv_at hl 0 rfl) ?_
  refine lv_iconst X.1 X.2.1 (dck_at da_X7_isLane 1 rfl) ki_0 ?_
  refine lv_iconst X.1 X.2.1 (dck_at da_X7_isLane 2 rfl) ki_3 ?_
  obtain ⟨r1, s1, hc, h⟩ := gB2_some h
  refine gr_backi Y (gr_runN (as := [.int a0, .int (0 : Int32), .int (3 : Int32)]) (rest := []) X G Y (ok_c_isIn hc) cn_RX7_22 ⟨Nat.le_of_ble_eq_true rfl, Nat.le_of_ble_eq_true rfl⟩ rfl hl.1 (Nat.le_of_ble_eq_true rfl) (dck_at da_X7_isLane 3 rfl)) (fun H locs Y => ?_)
  obtain ⟨hz, h⟩ := gI_if h
  exact gr_iretO X Y h hr (gz_nar hz) hlk (dck_at da_X7_isLane 4 rfl)
set_option maxRecDepth 100000 in
set_option maxHeartbeats 4000000 in
theorem ok_c_Sheets_isThere {l : Launch} {D : va_G} {cy : Nat → ClassId} {ad sa : Nat → Nat} {A : Nat → Prop} {F : Nat} {a1 : Int32} {s0 : St} {ρ : Int32} {σ' : St} (h : c_Sheets_isThere F a1 s0 = some (ρ, σ')) : gMi l shC D cy ad sa A yX7_isThere cX7_isThere 2 (some .boolean) 1 [.ref (ad 76), .int a1] s0 ρ σ' := by
  refine gM_of (by decide) (Nat.le_of_ble_eq_true rfl) ?_
  intro p e s m args below meth c ls X G Y hr hlk hl
  have hl : lv_has ls 2 [(0, .ref (ad 76)), (1, .int a1)] := hl
  unfold c_Sheets_isThere at h
  refine lv_aload_n X.1 X.2.1 (dck_at da_X7_isThere 0 rfl) rfl (lv_at hl 0 rfl) ?_
  refine gr_getR X G Y fk_RX7_15 clC_76 rfl (dck_at da_X7_isThere 1 rfl) ?_
  refine lv_iload_n X.1 X.2.1 (dck_at da_X7_isThere 2 rfl) rfl (lv_at hl 1 rfl) ?_
  obtain ⟨hin, h⟩ := gI_if h
  refine gr_iald X G Y clC_78 hin (dck_at da_X7_isThere 3 rfl) ?_
  refine lv_iconst X.1 X.2.1 (dck_at da_X7_isThere 4 rfl) ki_m1 ?_
  refine lv_icmp_eq (tgt := 14) X.1 X.2.1 (dck_at da_X7_isThere 5 rfl) rfl (fun c => ?_) (fun c => ?_)
  · have h := gI_pos h c
    refine lv_iconst X.1 X.2.1 (dck_at da_X7_isThere 8 rfl) ki_0 ?_
    exact gr_iretO X Y h hr rfl hlk (dck_at da_X7_isThere 9 rfl)
  · have h := gI_neg h c
    refine lv_iconst X.1 X.2.1 (dck_at da_X7_isThere 6 rfl) ki_1 ?_
    refine lv_goto (tgt := 15) X.1 X.2.1 (dck_at da_X7_isThere 7 rfl) rfl ?_
    exact gr_iretO X Y h hr rfl hlk (dck_at da_X7_isThere 9 rfl)
set_option maxRecDepth 100000 in
set_option maxHeartbeats 4000000 in
theorem ok_c_Sheets_holds {l : Launch} {D : va_G} {cy : Nat → ClassId} {ad sa : Nat → Nat} {A : Nat → Prop} {F : Nat} {a1 : Int32} {a2 : Int32} {a3 : Int32} {s0 : St} {ρ : Int32} {σ' : St} (h : c_Sheets_holds F a1 a2 a3 s0 = some (ρ, σ')) : gMi l shC D cy ad sa A yX7_holds cX7_holds 4 (some .boolean) 1 [.ref (ad 76), .int a1, .int a2, .int a3] s0 ρ σ' := by
  refine gM_of (by decide) (Nat.le_of_ble_eq_true rfl) ?_
  intro p e s m args below meth c ls X G Y hr hlk hl
  have hl : lv_has ls 4 [(0, .ref (ad 76)), (1, .int a1), (2, .int a2), (3, .int a3)] := hl
  have b34 : ∀  (s0 : St) (H : Heap) (locs : List Loc) (ls : Array Slot), c_Sheets_holds_J34 F  s0 = some (ρ, σ') → gY shC D cy ad A s0 s H locs → lv_has ls 4 [] → W p l e (grm 1) s m args below meth c H locs 0 0 (MQ below (va_Qi (fun (q : Int32) (_ : Unit) => q = ρ) (fun _ t => va_P D vwCl (gWl shC cy ad σ') t.heap) A) args s 0 0 A) (F0 m 34 ls []) := by
    intro s0 H locs ls h Y hl
    unfold c_Sheets_holds_J34 at h
    refine lv_iconst X.1 X.2.1 (dck_at da_X7_holds 20 rfl) ki_0 ?_
    exact gr_iretO X Y h hr rfl hlk (dck_at da_X7_holds 21 rfl)
  unfold c_Sheets_holds at h
  refine lv_iload_n X.1 X.2.1 (dck_at da_X7_holds 0 rfl) rfl (lv_at hl 3 rfl) ?_
  refine lv_if_lt (tgt := 34) X.1 X.2.1 (dck_at da_X7_holds 1 rfl) rfl (fun c => ?_) (fun c => ?_)
  · have h := gI_pos h c
    exact b34 s0 _ _ _ h Y (lv_sub hl [] rfl)
  · have h := gI_neg h c
    refine lv_iload_n X.1 X.2.1 (dck_at da_X7_holds 2 rfl) rfl (lv_at hl 2 rfl) ?_
    refine lv_if_lt (tgt := 34) X.1 X.2.1 (dck_at da_X7_holds 3 rfl) rfl (fun c => ?_) (fun c => ?_)
    · have h := gI_pos h c
      exact b34 s0 _ _ _ h Y (lv_sub hl [] rfl)
    · have h := gI_neg h c
      refine lv_iload_n X.1 X.2.1 (dck_at da_X7_holds 4 rfl) rfl (lv_at hl 2 rfl) ?_
      refine lv_aload_n X.1 X.2.1 (dck_at da_X7_holds 5 rfl) rfl (lv_at hl 0 rfl) ?_
      refine gr_getR X G Y fk_RX7_19 clC_76 rfl (dck_at da_X7_holds 6 rfl) ?_
      refine lv_iload_n X.1 X.2.1 (dck_at da_X7_holds 7 rfl) rfl (lv_at hl 1 rfl) ?_
      obtain ⟨hin, h⟩ := gI_if h
      refine gr_iald X G Y clC_79 hin (dck_at da_X7_holds 8 rfl) ?_
      refine lv_icmp_gt (tgt := 34) X.1 X.2.1 (dck_at da_X7_holds 9 rfl) rfl (fun c => ?_) (fun c => ?_)
      · have h := gI_pos h c
        exact b34 s0 _ _ _ h Y (lv_sub hl [] rfl)
      · have h := gI_neg h c
        refine lv_iload_n X.1 X.2.1 (dck_at da_X7_holds 10 rfl) rfl (lv_at hl 3 rfl) ?_
        refine lv_aload_n X.1 X.2.1 (dck_at da_X7_holds 11 rfl) rfl (lv_at hl 0 rfl) ?_
        refine gr_getR X G Y fk_RX7_19 clC_76 rfl (dck_at da_X7_holds 12 rfl) ?_
        refine lv_iload_n X.1 X.2.1 (dck_at da_X7_holds 13 rfl) rfl (lv_at hl 1 rfl) ?_
        obtain ⟨hin, h⟩ := gI_if h
        refine gr_iald X G Y clC_79 hin (dck_at da_X7_holds 14 rfl) ?_
        refine lv_iload_n X.1 X.2.1 (dck_at da_X7_holds 15 rfl) rfl (lv_at hl 2 rfl) ?_
        refine lv_isub X.1 X.2.1 (dck_at da_X7_holds 16 rfl) ?_
        refine lv_icmp_gt (tgt := 34) X.1 X.2.1 (dck_at da_X7_holds 17 rfl) rfl (fun c => ?_) (fun c => ?_)
        · have h := gI_pos h c
          exact b34 s0 _ _ _ h Y (lv_sub hl [] rfl)
        · have h := gI_neg h c
          refine lv_iconst X.1 X.2.1 (dck_at da_X7_holds 18 rfl) ki_1 ?_
          refine lv_goto (tgt := 35) X.1 X.2.1 (dck_at da_X7_holds 19 rfl) rfl ?_
          exact gr_iretO X Y h hr rfl hlk (dck_at da_X7_holds 21 rfl)
set_option maxRecDepth 100000 in
set_option maxHeartbeats 4000000 in
theorem ok_c_Sheets_wrong {l : Launch} {D : va_G} {cy : Nat → ClassId} {ad sa : Nat → Nat} {A : Nat → Prop} {F : Nat} {a1 : Int32} {a2 : Int32} {a3 : Int32} {a4 : Int32} {s0 : St} {ρ : Int32} {σ' : St} (h : c_Sheets_wrong F a1 a2 a3 a4 s0 = some (ρ, σ')) : gMi l shC D cy ad sa A yX7_wrong cX7_wrong 5 (some .int) 2 [.ref (ad 76), .int a1, .int a2, .int a3, .int a4] s0 ρ σ' := by
  refine gM_of (by decide) (Nat.le_of_ble_eq_true rfl) ?_
  intro p e s m args below meth c ls X G Y hr hlk hl
  have hl : lv_has ls 5 [(0, .ref (ad 76)), (1, .int a1), (2, .int a2), (3, .int a3), (4, .int a4)] := hl
  unfold c_Sheets_wrong at h
  refine lv_aload_n X.1 X.2.1 (dck_at da_X7_wrong 0 rfl) rfl (lv_at hl 0 rfl) ?_
  refine lv_iload_n X.1 X.2.1 (dck_at da_X7_wrong 1 rfl) rfl (lv_at hl 1 rfl) ?_
  obtain ⟨r1, s1, hc, h⟩ := gB2_some h
  refine gr_backi Y (gr_runV (as := [.int a1]) (rest := []) X G Y (ok_c_Sheets_isThere hc) cv_RX7_26 clC_76 ⟨Nat.le_of_ble_eq_true rfl, Nat.le_of_ble_eq_true rfl⟩ rfl hl.1 (Nat.le_of_ble_eq_true rfl) (dck_at da_X7_wrong 2 rfl)) (fun H locs Y => ?_)
  refine lv_if_ne (tgt := 11) X.1 X.2.1 (dck_at da_X7_wrong 3 rfl) rfl (fun c => ?_) (fun c => ?_)
  · have h := gI_neg h c
    refine lv_aload_n X.1 X.2.1 (dck_at da_X7_wrong 6 rfl) rfl (lv_at hl 0 rfl) ?_
    refine gr_getR X G Y fk_RX7_15 clC_76 rfl (dck_at da_X7_wrong 7 rfl) ?_
    refine lv_iload_n X.1 X.2.1 (dck_at da_X7_wrong 8 rfl) rfl (lv_at hl 1 rfl) ?_
    obtain ⟨hin, h⟩ := gI_if h
    refine gr_iald X G Y clC_78 hin (dck_at da_X7_wrong 9 rfl) ?_
    refine lv_iload_n X.1 X.2.1 (dck_at da_X7_wrong 10 rfl) rfl (lv_at hl 2 rfl) ?_
    refine lv_icmp_eq (tgt := 24) X.1 X.2.1 (dck_at da_X7_wrong 11 rfl) rfl (fun c => ?_) (fun c => ?_)
    · have h := gI_pos h c
      refine lv_aload_n X.1 X.2.1 (dck_at da_X7_wrong 14 rfl) rfl (lv_at hl 0 rfl) ?_
      refine lv_iload_n X.1 X.2.1 (dck_at da_X7_wrong 15 rfl) rfl (lv_at hl 1 rfl) ?_
      refine lv_iload_n X.1 X.2.1 (dck_at da_X7_wrong 16 rfl) rfl (lv_at hl 3 rfl) ?_
      refine lv_iload X.1 X.2.1 (dck_at da_X7_wrong 17 rfl) (lv_at hl 4 rfl) ?_
      obtain ⟨r2, s2, hc, h⟩ := gB2_some h
      refine gr_backi Y (gr_runV (as := [.int a1, .int a3, .int a4]) (rest := []) X G Y (ok_c_Sheets_holds hc) cv_RX7_30 clC_76 ⟨Nat.le_of_ble_eq_true rfl, Nat.le_of_ble_eq_true rfl⟩ rfl hl.1 (Nat.le_of_ble_eq_true rfl) (dck_at da_X7_wrong 18 rfl)) (fun H locs Y => ?_)
      refine lv_if_eq (tgt := 39) X.1 X.2.1 (dck_at da_X7_wrong 19 rfl) rfl (fun c => ?_) (fun c => ?_)
      · have h := gI_pos h c
        refine lv_bipush X.1 X.2.1 (dck_at da_X7_wrong 22 rfl) kb_m13 ?_
        exact gr_iretO X Y h hr rfl hlk (dck_at da_X7_wrong 23 rfl)
      · have h := gI_neg h c
        refine lv_iconst X.1 X.2.1 (dck_at da_X7_wrong 20 rfl) ki_0 ?_
        refine lv_goto (tgt := 41) X.1 X.2.1 (dck_at da_X7_wrong 21 rfl) rfl ?_
        exact gr_iretO X Y h hr rfl hlk (dck_at da_X7_wrong 23 rfl)
    · have h := gI_neg h c
      refine lv_bipush X.1 X.2.1 (dck_at da_X7_wrong 12 rfl) kb_m12 ?_
      exact gr_iretO X Y h hr rfl hlk (dck_at da_X7_wrong 13 rfl)
  · have h := gI_pos h c
    refine lv_bipush X.1 X.2.1 (dck_at da_X7_wrong 4 rfl) kb_m11 ?_
    exact gr_iretO X Y h hr rfl hlk (dck_at da_X7_wrong 5 rfl)
set_option maxRecDepth 100000 in
set_option maxHeartbeats 4000000 in
theorem ok_c_areFindsAsTold {l : Launch} {D : va_G} {cy : Nat → ClassId} {ad sa : Nat → Nat} {A : Nat → Prop} {F : Nat} {a1 : Int32} {a2 : Int32} {a3 : Int32} {s0 : St} {ρ : Int32} {σ' : St} (h : c_areFindsAsTold F a1 a2 a3 s0 = some (ρ, σ')) : gMi l shC D cy ad sa A yX11_areFindsAsTold cX11_areFindsAsTold 6 (some .boolean) 2 [.ref (ad 0), .int a1, .int a2, .int a3] s0 ρ σ' := by
  refine gM_of (by decide) (Nat.le_of_ble_eq_true rfl) ?_
  intro p e s m args below meth c ls X G Y hr hlk hl
  have hl : lv_has ls 6 [(0, .ref (ad 0)), (1, .int a1), (2, .int a2), (3, .int a3)] := hl
  have b3 : ∀ n : Nat, ∀ (x1 : Int32) (x2 : Int32) (x3 : Int32) (x4 : Int32) (s0 : St) (H : Heap) (locs : List Loc) (ls : Array Slot), c_areFindsAsTold_L3 F  n x1 x2 x3 x4 s0 = some (ρ, σ') → gY shC D cy ad A s0 s H locs → lv_has ls 6 [(0, .ref (ad 0)), (1, .int x1), (2, .int x2), (3, .int x3), (4, .int x4)] → W p l e (grm 2) s m args below meth c H locs 0 0 (MQ below (va_Qi (fun (q : Int32) (_ : Unit) => q = ρ) (fun _ t => va_P D vwCl (gWl shC cy ad σ') t.heap) A) args s 0 0 A) (F0 m 3 ls []) := by
    intro n
    induction n with
    | zero => intro x1 x2 x3 x4 s0 H locs ls h Y hl; exact (gnone h).elim
    | succ n hk3 =>
      have e : c_areFindsAsTold_L3 F  (n + 1) = c_areFindsAsTold_L3b F  (c_areFindsAsTold_L3 F  n) := rfl
      rw [e]; clear e
      generalize c_areFindsAsTold_L3 F  n = k3 at hk3 ⊢
      intro x1 x2 x3 x4 s0 H locs ls h Y hl
      unfold c_areFindsAsTold_L3b at h
      refine lv_iload X.1 X.2.1 (dck_at da_X11_areFindsAsTold 2 rfl) (lv_at hl 4 rfl) ?_
      refine lv_iload_n X.1 X.2.1 (dck_at da_X11_areFindsAsTold 3 rfl) rfl (lv_at hl 3 rfl) ?_
      refine lv_icmp_ge (tgt := 65) X.1 X.2.1 (dck_at da_X11_areFindsAsTold 4 rfl) rfl (fun c => ?_) (fun c => ?_)
      · have h := gI_pos h c
        refine lv_iconst X.1 X.2.1 (dck_at da_X11_areFindsAsTold 36 rfl) ki_1 ?_
        exact gr_iretO X Y h hr rfl hlk (dck_at da_X11_areFindsAsTold 37 rfl)
      · have h := gI_neg h c
        refine lv_iload_n X.1 X.2.1 (dck_at da_X11_areFindsAsTold 5 rfl) rfl (lv_at hl 2 rfl) ?_
        refine lv_iload X.1 X.2.1 (dck_at da_X11_areFindsAsTold 6 rfl) (lv_at hl 4 rfl) ?_
        refine lv_iconst X.1 X.2.1 (dck_at da_X11_areFindsAsTold 7 rfl) ki_3 ?_
        refine lv_imul X.1 X.2.1 (dck_at da_X11_areFindsAsTold 8 rfl) ?_
        refine lv_iadd X.1 X.2.1 (dck_at da_X11_areFindsAsTold 9 rfl) ?_
        refine lv_istore (lv' := [(5, .int (x2 + (x4 * (3 : Int32)))), (0, .ref (ad 0)), (1, .int x1), (2, .int x2), (3, .int x3), (4, .int x4)]) X.1 X.2.1 (dck_at da_X11_areFindsAsTold 10 rfl) hl (by decide) rfl (fun ls hl => ?_)
        refine lv_aload_n X.1 X.2.1 (dck_at da_X11_areFindsAsTold 11 rfl) rfl (lv_at hl 1 rfl) ?_
        refine gr_getR X G Y fk_RX11_36 clC_0 rfl (dck_at da_X11_areFindsAsTold 12 rfl) ?_
        refine lv_iload_n X.1 X.2.1 (dck_at da_X11_areFindsAsTold 13 rfl) rfl (lv_at hl 2 rfl) ?_
        refine lv_iload X.1 X.2.1 (dck_at da_X11_areFindsAsTold 14 rfl) (lv_at hl 0 rfl) ?_
        obtain ⟨r1, s1, hc, h⟩ := gB2_some h
        refine gr_backl Y (gr_runV (as := [.int x1, .int (x2 + (x4 * (3 : Int32)))]) (rest := []) X G Y (ok_c_Sheets_at hc) cv_RX11_334 clC_76 ⟨Nat.le_of_ble_eq_true rfl, Nat.le_of_ble_eq_true rfl⟩ rfl hl.1 (Nat.le_of_ble_eq_true rfl) (dck_at da_X11_areFindsAsTold 15 rfl)) (fun H locs Y => ?_)
        refine lv_aload_n X.1 X.2.1 (dck_at da_X11_areFindsAsTold 16 rfl) rfl (lv_at hl 1 rfl) ?_
        refine gr_getR X G Y fk_RX11_36 clC_0 rfl (dck_at da_X11_areFindsAsTold 17 rfl) ?_
        refine lv_iload_n X.1 X.2.1 (dck_at da_X11_areFindsAsTold 18 rfl) rfl (lv_at hl 2 rfl) ?_
        refine lv_iload X.1 X.2.1 (dck_at da_X11_areFindsAsTold 19 rfl) (lv_at hl 0 rfl) ?_
        refine lv_iconst X.1 X.2.1 (dck_at da_X11_areFindsAsTold 20 rfl) ki_1 ?_
        refine lv_iadd X.1 X.2.1 (dck_at da_X11_areFindsAsTold 21 rfl) ?_
        obtain ⟨r2, s2, hc, h⟩ := gB2_some h
        refine gr_backl Y (gr_runV (as := [.int x1, .int ((x2 + (x4 * (3 : Int32))) + (1 : Int32))]) (rest := [.long r1]) X G Y (ok_c_Sheets_at hc) cv_RX11_334 clC_76 ⟨Nat.le_of_ble_eq_true rfl, Nat.le_of_ble_eq_true rfl⟩ rfl hl.1 (Nat.le_of_ble_eq_true rfl) (dck_at da_X11_areFindsAsTold 22 rfl)) (fun H locs Y => ?_)
        refine lv_aload_n X.1 X.2.1 (dck_at da_X11_areFindsAsTold 23 rfl) rfl (lv_at hl 1 rfl) ?_
        refine gr_getR X G Y fk_RX11_36 clC_0 rfl (dck_at da_X11_areFindsAsTold 24 rfl) ?_
        refine lv_iload_n X.1 X.2.1 (dck_at da_X11_areFindsAsTold 25 rfl) rfl (lv_at hl 2 rfl) ?_
        refine lv_iload X.1 X.2.1 (dck_at da_X11_areFindsAsTold 26 rfl) (lv_at hl 0 rfl) ?_
        refine lv_iconst X.1 X.2.1 (dck_at da_X11_areFindsAsTold 27 rfl) ki_2 ?_
        refine lv_iadd X.1 X.2.1 (dck_at da_X11_areFindsAsTold 28 rfl) ?_
        obtain ⟨r3, s3, hc, h⟩ := gB2_some h
        refine gr_backl Y (gr_runV (as := [.int x1, .int ((x2 + (x4 * (3 : Int32))) + (2 : Int32))]) (rest := [.long r2, .long r1]) X G Y (ok_c_Sheets_at hc) cv_RX11_334 clC_76 ⟨Nat.le_of_ble_eq_true rfl, Nat.le_of_ble_eq_true rfl⟩ rfl hl.1 (Nat.le_of_ble_eq_true rfl) (dck_at da_X11_areFindsAsTold 29 rfl)) (fun H locs Y => ?_)
        obtain ⟨r4, s4, hc, h⟩ := gB2_some h
        refine gr_backi Y (gr_runS (as := [.long r1, .long r2, .long r3]) (rest := []) X G Y (ok_c_Book_isAsTold hc) cs_RX11_276 ⟨Nat.le_of_ble_eq_true rfl, Nat.le_of_ble_eq_true rfl⟩ rfl hl.1 (Nat.le_of_ble_eq_true rfl) (dck_at da_X11_areFindsAsTold 30 rfl)) (fun H locs Y => ?_)
        refine lv_if_ne (tgt := 59) X.1 X.2.1 (dck_at da_X11_areFindsAsTold 31 rfl) rfl (fun c => ?_) (fun c => ?_)
        · have h := gI_neg h c
          refine lv_iinc (v := x4 + (1 : Int32)) (lv' := [(4, .int (x4 + (1 : Int32))), (5, .int (x2 + (x4 * (3 : Int32)))), (0, .ref (ad 0)), (1, .int x1), (2, .int x2), (3, .int x3)]) X.1 X.2.1 (dck_at da_X11_areFindsAsTold 34 rfl) hl (k := 5) rfl (congrArg (HAdd.hAdd _) ki_1) (by decide) rfl (fun ls hl => ?_)
          refine lv_goto (tgt := 3) X.1 X.2.1 (dck_at da_X11_areFindsAsTold 35 rfl) rfl ?_
          exact hk3 x1 x2 x3 (x4 + (1 : Int32)) s4 _ _ _ h Y (lv_sub hl [2, 3, 4, 5, 0] rfl)
        · have h := gI_pos h c
          refine lv_iconst X.1 X.2.1 (dck_at da_X11_areFindsAsTold 32 rfl) ki_0 ?_
          exact gr_iretO X Y h hr rfl hlk (dck_at da_X11_areFindsAsTold 33 rfl)
  unfold c_areFindsAsTold at h
  refine lv_iconst X.1 X.2.1 (dck_at da_X11_areFindsAsTold 0 rfl) ki_0 ?_
  refine lv_istore (lv' := [(4, .int (0 : Int32)), (0, .ref (ad 0)), (1, .int a1), (2, .int a2), (3, .int a3)]) X.1 X.2.1 (dck_at da_X11_areFindsAsTold 1 rfl) hl (by decide) rfl (fun ls hl => ?_)
  exact b3 F a1 a2 a3 (0 : Int32) s0 _ _ _ h Y (lv_sub hl [1, 2, 3, 4, 0] rfl)
