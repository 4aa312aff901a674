/-! each method does what its mirror says -/
set_option maxRecDepth 100000 in
set_option maxHeartbeats 4000000 in
theorem ok_c_finds {l : Launch} {D : va_G} {cy : Nat → ClassId} {ad sa : Nat → Nat} {A : Nat → Prop} {F : Nat} {a1 : Int32} {a2 : Int32} {a3 : Int32} {a4 : Int32} {s0 : St} {ρ : Int32} {σ' : St} (h : c_finds F a1 a2 a3 a4 s0 = some (ρ, σ')) : gMi l shC D cy ad sa A yX11_finds cX11_finds 8 (some .int) 3 [.ref (ad 0), .int a1, .int a2, .int a3, .int a4] s0 ρ σ' := by
  refine gM_of (by decide) (Nat.le_of_ble_eq_true rfl) ?_
  intro p e s m args below meth c ls X G Y hr hlk hl
  have hl : lv_has ls 8 [(0, .ref (ad 0)), (1, .int a1), (2, .int a2), (3, .int a3), (4, .int a4)] := hl
  have b25 : ∀  (s0 : St) (H : Heap) (locs : List Loc) (ls : Array Slot), c_finds_J25 F  s0 = some (ρ, σ') → gY shC D cy ad A s0 s H locs → lv_has ls 8 [(0, .ref (ad 0))] → W p l e (grm 3) s m args below meth c H locs 0 0 (MQ below (va_Qi (fun (q : Int32) (_ : Unit) => q = ρ) (fun _ t => va_P D vwCl (gWl shC cy ad σ') t.heap) A) args s 0 0 A) (F0 m 25 ls []) := by
    intro s0 H locs ls h Y hl
    unfold c_finds_J25 at h
    refine lv_aload_n X.1 X.2.1 (dck_at da_X11_finds 11 rfl) rfl (lv_at hl 0 rfl) ?_
    refine lv_iconst X.1 X.2.1 (dck_at da_X11_finds 12 rfl) ki_m1 ?_
    obtain ⟨r1, s1, hc, h⟩ := gB2_some h
    refine gr_backi Y (gr_runV (as := [.int (-1 : Int32)]) (rest := []) X G Y (ok_c_refuse hc) cv_RX11_55 clC_0 ⟨Nat.le_of_ble_eq_true rfl, Nat.le_of_ble_eq_true rfl⟩ rfl hl.1 (Nat.le_of_ble_eq_true rfl) (dck_at da_X11_finds 13 rfl)) (fun H locs Y => ?_)
    exact gr_iretO X Y h hr rfl hlk (dck_at da_X11_finds 14 rfl)
  have b105 : ∀ n : Nat, ∀ (x1 : Int32) (x3 : Int32) (x4 : Int32) (x6 : Int32) (s0 : St) (H : Heap) (locs : List Loc) (ls : Array Slot), c_finds_L105 F  n x1 x3 x4 x6 s0 = some (ρ, σ') → gY shC D cy ad A s0 s H locs → lv_has ls 8 [(0, .ref (ad 0)), (1, .int x1), (3, .int x3), (4, .int x4), (6, .int x6)] → W p l e (grm 3) s m args below meth c H locs 0 0 (MQ below (va_Qi (fun (q : Int32) (_ : Unit) => q = ρ) (fun _ t => va_P D vwCl (gWl shC cy ad σ') t.heap) A) args s 0 0 A) (F0 m 105 ls []) := by
    intro n
    induction n with
    | zero => intro x1 x3 x4 x6 s0 H locs ls h Y hl; exact (gnone h).elim
    | succ n hk105 =>
      have e : c_finds_L105 F  (n + 1) = c_finds_L105b F  (c_finds_L105 F  n) := rfl
      rw [e]; clear e
      generalize c_finds_L105 F  n = k105 at hk105 ⊢
      intro x1 x3 x4 x6 s0 H locs ls h Y hl
      unfold c_finds_L105b at h
      refine lv_iload X.1 X.2.1 (dck_at da_X11_finds 55 rfl) (lv_at hl 4 rfl) ?_
      refine lv_iload X.1 X.2.1 (dck_at da_X11_finds 56 rfl) (lv_at hl 3 rfl) ?_
      refine lv_icmp_ge (tgt := 174) X.1 X.2.1 (dck_at da_X11_finds 57 rfl) rfl (fun c => ?_) (fun c => ?_)
      · have h := gI_pos h c
        refine lv_aload_n X.1 X.2.1 (dck_at da_X11_finds 93 rfl) rfl (lv_at hl 0 rfl) ?_
        refine gr_getR X G Y fk_RX11_12 clC_0 rfl (dck_at da_X11_finds 94 rfl) ?_
        refine gr_getR X G Y fk_RX11_189 clC_1 rfl (dck_at da_X11_finds 95 rfl) ?_
        refine gr_getI X G Y fk_RX11_193 clC_28 rfl (dck_at da_X11_finds 96 rfl) ?_
        exact gr_iretO X Y h hr rfl hlk (dck_at da_X11_finds 97 rfl)
      · have h := gI_neg h c
        refine lv_iload_n X.1 X.2.1 (dck_at da_X11_finds 58 rfl) rfl (lv_at hl 2 rfl) ?_
        refine lv_iload X.1 X.2.1 (dck_at da_X11_finds 59 rfl) (lv_at hl 4 rfl) ?_
        refine lv_iconst X.1 X.2.1 (dck_at da_X11_finds 60 rfl) ki_3 ?_
        refine lv_imul X.1 X.2.1 (dck_at da_X11_finds 61 rfl) ?_
        refine lv_iadd X.1 X.2.1 (dck_at da_X11_finds 62 rfl) ?_
        refine lv_istore (lv' := [(7, .int (x3 + (x6 * (3 : Int32)))), (0, .ref (ad 0)), (1, .int x1), (3, .int x3), (4, .int x4), (6, .int x6)]) X.1 X.2.1 (dck_at da_X11_finds 63 rfl) hl (by decide) rfl (fun ls hl => ?_)
        refine lv_aload_n X.1 X.2.1 (dck_at da_X11_finds 64 rfl) rfl (lv_at hl 1 rfl) ?_
        refine gr_getR X G Y fk_RX11_12 clC_0 rfl (dck_at da_X11_finds 65 rfl) ?_
        refine gr_getR X G Y fk_RX11_189 clC_1 rfl (dck_at da_X11_finds 66 rfl) ?_
        refine lv_aload_n X.1 X.2.1 (dck_at da_X11_finds 67 rfl) rfl (lv_at hl 1 rfl) ?_
        refine gr_getR X G Y fk_RX11_36 clC_0 rfl (dck_at da_X11_finds 68 rfl) ?_
        refine lv_iload_n X.1 X.2.1 (dck_at da_X11_finds 69 rfl) rfl (lv_at hl 2 rfl) ?_
        refine lv_iload X.1 X.2.1 (dck_at da_X11_finds 70 rfl) (lv_at hl 0 rfl) ?_
        obtain ⟨r2, s2, hc, h⟩ := gB2_some h
        refine gr_backl Y (gr_runV (as := [.int x1, .int (x3 + (x6 * (3 : Int32)))]) (rest := [.ref (ad 28)]) X G Y (ok_c_Sheets_at hc) cv_RX11_334 clC_76 ⟨Nat.le_of_ble_eq_true rfl, Nat.le_of_ble_eq_true rfl⟩ rfl hl.1 (Nat.le_of_ble_eq_true rfl) (dck_at da_X11_finds 71 rfl)) (fun H locs Y => ?_)
        refine lv_l2i (v := (r2).toInt32) X.1 X.2.1 (dck_at da_X11_finds 72 rfl) rfl ?_
        refine lv_aload_n X.1 X.2.1 (dck_at da_X11_finds 73 rfl) rfl (lv_at hl 1 rfl) ?_
        refine gr_getR X G Y fk_RX11_36 clC_0 rfl (dck_at da_X11_finds 74 rfl) ?_
        refine lv_iload_n X.1 X.2.1 (dck_at da_X11_finds 75 rfl) rfl (lv_at hl 2 rfl) ?_
        refine lv_iload X.1 X.2.1 (dck_at da_X11_finds 76 rfl) (lv_at hl 0 rfl) ?_
        refine lv_iconst X.1 X.2.1 (dck_at da_X11_finds 77 rfl) ki_1 ?_
        refine lv_iadd X.1 X.2.1 (dck_at da_X11_finds 78 rfl) ?_
        obtain ⟨r3, s3, hc, h⟩ := gB2_some h
        refine gr_backl Y (gr_runV (as := [.int x1, .int ((x3 + (x6 * (3 : Int32))) + (1 : Int32))]) (rest := [.int ((r2).toInt32), .ref (ad 28)]) X G Y (ok_c_Sheets_at hc) cv_RX11_334 clC_76 ⟨Nat.le_of_ble_eq_true rfl, Nat.le_of_ble_eq_true rfl⟩ rfl hl.1 (Nat.le_of_ble_eq_true rfl) (dck_at da_X11_finds 79 rfl)) (fun H locs Y => ?_)
        refine lv_l2i (v := (r3).toInt32) X.1 X.2.1 (dck_at da_X11_finds 80 rfl) rfl ?_
        refine lv_aload_n X.1 X.2.1 (dck_at da_X11_finds 81 rfl) rfl (lv_at hl 1 rfl) ?_
        refine gr_getR X G Y fk_RX11_36 clC_0 rfl (dck_at da_X11_finds 82 rfl) ?_
        refine lv_iload_n X.1 X.2.1 (dck_at da_X11_finds 83 rfl) rfl (lv_at hl 2 rfl) ?_
        refine lv_iload X.1 X.2.1 (dck_at da_X11_finds 84 rfl) (lv_at hl 0 rfl) ?_
        refine lv_iconst X.1 X.2.1 (dck_at da_X11_finds 85 rfl) ki_2 ?_
        refine lv_iadd X.1 X.2.1 (dck_at da_X11_finds 86 rfl) ?_
        obtain ⟨r4, s4, hc, h⟩ := gB2_some h
        refine gr_backl Y (gr_runV (as := [.int x1, .int ((x3 + (x6 * (3 : Int32))) + (2 : Int32))]) (rest := [.int ((r3).toInt32), .int ((r2).toInt32), .ref (ad 28)]) X G Y (ok_c_Sheets_at hc) cv_RX11_334 clC_76 ⟨Nat.le_of_ble_eq_true rfl, Nat.le_of_ble_eq_true rfl⟩ rfl hl.1 (Nat.le_of_ble_eq_true rfl) (dck_at da_X11_finds 87 rfl)) (fun H locs Y => ?_)
        refine lv_l2i (v := (r4).toInt32) X.1 X.2.1 (dck_at da_X11_finds 88 rfl) rfl ?_
        obtain ⟨r5, s5, hc, h⟩ := gB2_some h
        refine gr_backi Y (gr_runV (as := [.int ((r2).toInt32), .int ((r3).toInt32), .int ((r4).toInt32)]) (rest := []) X G Y (ok_c_Book_add hc) cv_RX11_280 clC_28 ⟨Nat.le_of_ble_eq_true rfl, Nat.le_of_ble_eq_true rfl⟩ rfl hl.1 (Nat.le_of_ble_eq_true rfl) (dck_at da_X11_finds 89 rfl)) (fun H locs Y => ?_)
        refine lv_pop X.1 X.2.1 (dck_at da_X11_finds 90 rfl) rfl ?_
        refine lv_iinc (v := x6 + (1 : Int32)) (lv' := [(6, .int (x6 + (1 : Int32))), (7, .int (x3 + (x6 * (3 : Int32)))), (0, .ref (ad 0)), (1, .int x1), (3, .int x3), (4, .int x4)]) X.1 X.2.1 (dck_at da_X11_finds 91 rfl) hl (k := 5) rfl (congrArg (HAdd.hAdd _) ki_1) (by decide) rfl (fun ls hl => ?_)
        refine lv_goto (tgt := 105) X.1 X.2.1 (dck_at da_X11_finds 92 rfl) rfl ?_
        exact hk105 x1 x3 x4 (x6 + (1 : Int32)) s5 _ _ _ h Y (lv_sub hl [2, 3, 4, 5, 0] rfl)
  unfold c_finds at h
  refine lv_iload_n X.1 X.2.1 (dck_at da_X11_finds 0 rfl) rfl (lv_at hl 1 rfl) ?_
  obtain ⟨r6, s6, hc, h⟩ := gB2_some h
  refine gr_backi Y (gr_runS (as := [.int a1]) (rest := []) X G Y (ok_c_Sheets_isSheet hc) cs_RX11_321 ⟨Nat.le_of_ble_eq_true rfl, Nat.le_of_ble_eq_true rfl⟩ rfl hl.1 (Nat.le_of_ble_eq_true rfl) (dck_at da_X11_finds 1 rfl)) (fun H locs Y => ?_)
  refine lv_if_eq (tgt := 25) X.1 X.2.1 (dck_at da_X11_finds 2 rfl) rfl (fun c => ?_) (fun c => ?_)
  · have h := gI_pos h c
    exact b25 s6 _ _ _ h Y (lv_sub hl [0] rfl)
  · have h := gI_neg h c
    refine lv_iload_n X.1 X.2.1 (dck_at da_X11_finds 3 rfl) rfl (lv_at hl 2 rfl) ?_
    obtain ⟨r7, s7, hc, h⟩ := gB2_some h
    refine gr_backi Y (gr_runS (as := [.int a2]) (rest := []) X G Y (ok_c_Sheets_isLane hc) cs_RX11_324 ⟨Nat.le_of_ble_eq_true rfl, Nat.le_of_ble_eq_true rfl⟩ rfl hl.1 (Nat.le_of_ble_eq_true rfl) (dck_at da_X11_finds 4 rfl)) (fun H locs Y => ?_)
    refine lv_if_eq (tgt := 25) X.1 X.2.1 (dck_at da_X11_finds 5 rfl) rfl (fun c => ?_) (fun c => ?_)
    · have h := gI_pos h c
      exact b25 s7 _ _ _ h Y (lv_sub hl [0] rfl)
    · have h := gI_neg h c
      refine lv_iload X.1 X.2.1 (dck_at da_X11_finds 6 rfl) (lv_at hl 4 rfl) ?_
      refine lv_iconst X.1 X.2.1 (dck_at da_X11_finds 7 rfl) ki_1 ?_
      refine lv_bipush X.1 X.2.1 (dck_at da_X11_finds 8 rfl) kb_8 ?_
      obtain ⟨r8, s8, hc, h⟩ := gB2_some h
      refine gr_backi Y (gr_runS (as := [.int a4, .int (1 : Int32), .int (8 : Int32)]) (rest := []) X G Y (ok_c_isIn hc) cs_RX11_68 ⟨Nat.le_of_ble_eq_true rfl, Nat.le_of_ble_eq_true rfl⟩ rfl hl.1 (Nat.le_of_ble_eq_true rfl) (dck_at da_X11_finds 9 rfl)) (fun H locs Y => ?_)
      refine lv_if_ne (tgt := 31) X.1 X.2.1 (dck_at da_X11_finds 10 rfl) rfl (fun c => ?_) (fun c => ?_)
      · have h := gI_neg h c
        refine lv_aload_n X.1 X.2.1 (dck_at da_X11_finds 15 rfl) rfl (lv_at hl 0 rfl) ?_
        refine gr_getR X G Y fk_RX11_36 clC_0 rfl (dck_at da_X11_finds 16 rfl) ?_
        refine lv_iload_n X.1 X.2.1 (dck_at da_X11_finds 17 rfl) rfl (lv_at hl 1 rfl) ?_
        refine lv_iload_n X.1 X.2.1 (dck_at da_X11_finds 18 rfl) rfl (lv_at hl 2 rfl) ?_
        refine lv_iload_n X.1 X.2.1 (dck_at da_X11_finds 19 rfl) rfl (lv_at hl 3 rfl) ?_
        refine lv_iload X.1 X.2.1 (dck_at da_X11_finds 20 rfl) (lv_at hl 4 rfl) ?_
        refine lv_iconst X.1 X.2.1 (dck_at da_X11_finds 21 rfl) ki_3 ?_
        refine lv_imul X.1 X.2.1 (dck_at da_X11_finds 22 rfl) ?_
        obtain ⟨r9, s9, hc, h⟩ := gB2_some h
        refine gr_backi Y (gr_runV (as := [.int a1, .int a2, .int a3, .int (a4 * (3 : Int32))]) (rest := []) X G Y (ok_c_Sheets_wrong hc) cv_RX11_327 clC_76 ⟨Nat.le_of_ble_eq_true rfl, Nat.le_of_ble_eq_true rfl⟩ rfl hl.1 (Nat.le_of_ble_eq_true rfl) (dck_at da_X11_finds 23 rfl)) (fun H locs Y => ?_)
        refine lv_istore (lv' := [(5, .int r9), (0, .ref (ad 0)), (1, .int a1), (2, .int a2), (3, .int a3), (4, .int a4)]) X.1 X.2.1 (dck_at da_X11_finds 24 rfl) hl (by decide) rfl (fun ls hl => ?_)
        refine lv_iload X.1 X.2.1 (dck_at da_X11_finds 25 rfl) (lv_at hl 0 rfl) ?_
        refine lv_if_ge (tgt := 59) X.1 X.2.1 (dck_at da_X11_finds 26 rfl) rfl (fun c => ?_) (fun c => ?_)
        · have h := gI_pos h c
          refine lv_aload_n X.1 X.2.1 (dck_at da_X11_finds 31 rfl) rfl (lv_at hl 1 rfl) ?_
          refine lv_iload_n X.1 X.2.1 (dck_at da_X11_finds 32 rfl) rfl (lv_at hl 2 rfl) ?_
          refine lv_iload_n X.1 X.2.1 (dck_at da_X11_finds 33 rfl) rfl (lv_at hl 4 rfl) ?_
          refine lv_iload X.1 X.2.1 (dck_at da_X11_finds 34 rfl) (lv_at hl 5 rfl) ?_
          obtain ⟨r10, s10, hc, h⟩ := gB2_some h
          refine gr_backi Y (gr_runV (as := [.int a1, .int a3, .int a4]) (rest := []) X G Y (ok_c_areFindsAsTold hc) cv_RX11_331 clC_0 ⟨Nat.le_of_ble_eq_true rfl, Nat.le_of_ble_eq_true rfl⟩ rfl hl.1 (Nat.le_of_ble_eq_true rfl) (dck_at da_X11_finds 35 rfl)) (fun H locs Y => ?_)
          refine lv_if_ne (tgt := 77) X.1 X.2.1 (dck_at da_X11_finds 36 rfl) rfl (fun c => ?_) (fun c => ?_)
          · have h := gI_neg h c
            refine lv_iload X.1 X.2.1 (dck_at da_X11_finds 41 rfl) (lv_at hl 5 rfl) ?_
            refine lv_bipush X.1 X.2.1 (dck_at da_X11_finds 42 rfl) kb_60 ?_
            refine lv_aload_n X.1 X.2.1 (dck_at da_X11_finds 43 rfl) rfl (lv_at hl 1 rfl) ?_
            refine gr_getR X G Y fk_RX11_12 clC_0 rfl (dck_at da_X11_finds 44 rfl) ?_
            refine gr_getR X G Y fk_RX11_189 clC_1 rfl (dck_at da_X11_finds 45 rfl) ?_
            refine gr_getI X G Y fk_RX11_193 clC_28 rfl (dck_at da_X11_finds 46 rfl) ?_
            refine lv_isub X.1 X.2.1 (dck_at da_X11_finds 47 rfl) ?_
            refine lv_icmp_le (tgt := 102) X.1 X.2.1 (dck_at da_X11_finds 48 rfl) rfl (fun c => ?_) (fun c => ?_)
            · have h := gI_pos h c
              refine lv_iconst X.1 X.2.1 (dck_at da_X11_finds 53 rfl) ki_0 ?_
              refine lv_istore (lv' := [(6, .int (0 : Int32)), (5, .int r9), (0, .ref (ad 0)), (1, .int a1), (2, .int a2), (3, .int a3), (4, .int a4)]) X.1 X.2.1 (dck_at da_X11_finds 54 rfl) hl (by decide) rfl (fun ls hl => ?_)
              exact b105 F a1 a3 a4 (0 : Int32) s10 _ _ _ h Y (lv_sub hl [2, 3, 5, 6, 0] rfl)
            · have h := gI_neg h c
              refine lv_aload_n X.1 X.2.1 (dck_at da_X11_finds 49 rfl) rfl (lv_at hl 1 rfl) ?_
              refine lv_bipush X.1 X.2.1 (dck_at da_X11_finds 50 rfl) kb_m3 ?_
              obtain ⟨r11, s11, hc, h⟩ := gB2_some h
              refine gr_backi Y (gr_runV (as := [.int (-3 : Int32)]) (rest := []) X G Y (ok_c_refuse hc) cv_RX11_55 clC_0 ⟨Nat.le_of_ble_eq_true rfl, Nat.le_of_ble_eq_true rfl⟩ rfl hl.1 (Nat.le_of_ble_eq_true rfl) (dck_at da_X11_finds 51 rfl)) (fun H locs Y => ?_)
              exact gr_iretO X Y h hr rfl hlk (dck_at da_X11_finds 52 rfl)
          · have h := gI_pos h c
            refine lv_aload_n X.1 X.2.1 (dck_at da_X11_finds 37 rfl) rfl (lv_at hl 1 rfl) ?_
            refine lv_bipush X.1 X.2.1 (dck_at da_X11_finds 38 rfl) kb_m2 ?_
            obtain ⟨r12, s12, hc, h⟩ := gB2_some h
            refine gr_backi Y (gr_runV (as := [.int (-2 : Int32)]) (rest := []) X G Y (ok_c_refuse hc) cv_RX11_55 clC_0 ⟨Nat.le_of_ble_eq_true rfl, Nat.le_of_ble_eq_true rfl⟩ rfl hl.1 (Nat.le_of_ble_eq_true rfl) (dck_at da_X11_finds 39 rfl)) (fun H locs Y => ?_)
            exact gr_iretO X Y h hr rfl hlk (dck_at da_X11_finds 40 rfl)
        · have h := gI_neg h c
          refine lv_aload_n X.1 X.2.1 (dck_at da_X11_finds 27 rfl) rfl (lv_at hl 1 rfl) ?_
          refine lv_iload X.1 X.2.1 (dck_at da_X11_finds 28 rfl) (lv_at hl 0 rfl) ?_
          obtain ⟨r13, s13, hc, h⟩ := gB2_some h
          refine gr_backi Y (gr_runV (as := [.int r9]) (rest := []) X G Y (ok_c_refuse hc) cv_RX11_55 clC_0 ⟨Nat.le_of_ble_eq_true rfl, Nat.le_of_ble_eq_true rfl⟩ rfl hl.1 (Nat.le_of_ble_eq_true rfl) (dck_at da_X11_finds 29 rfl)) (fun H locs Y => ?_)
          exact gr_iretO X Y h hr rfl hlk (dck_at da_X11_finds 30 rfl)
      · have h := gI_pos h c
        exact b25 s8 _ _ _ h Y (lv_sub hl [0] rfl)
set_option maxRecDepth 100000 in
set_option maxHeartbeats 4000000 in
theorem ok_c_Sheets_cut {l : Launch} {D : va_G} {cy : Nat → ClassId} {ad sa : Nat → Nat} {A : Nat → Prop} {F : Nat} {a0 : Int32} {a1 : Int64} {s0 : St} {ρ : Int64} {σ' : St} (h : c_Sheets_cut F a0 a1 s0 = some (ρ, σ')) : gMl l shC D cy ad sa A yX7_cut cX7_cut 3 (some .long) 1 [.int a0, .long a1] s0 ρ σ' := by
  refine gM_of (by decide) (Nat.le_of_ble_eq_true rfl) ?_
  intro p e s m args below meth c ls X G Y hr hlk hl
  have hl : lv_has ls 3 [(0, .int a0), (1, .long a1)] := hl
  unfold c_Sheets_cut at h
  refine lv_iload_n X.1 X.2.1 (dck_at da_X7_cut 0 rfl) rfl (lv_at hl 0 rfl) ?_
  by_cases c0 : a0 = (0 : Int32)
  · have h := gI_pos h c0
    refine lv_tableIn (tgt := 28) (off := 27) X.1 X.2.1 (dck_at da_X7_cut 1 rfl) (by rw [c0]; decide) (by rw [c0]; decide) (by rw [c0]; rfl) rfl ?_
    refine lv_lload_n X.1 X.2.1 (dck_at da_X7_cut 2 rfl) rfl (lv_at hl 1 rfl) ?_
    refine lv_l2i (v := (a1).toInt32) X.1 X.2.1 (dck_at da_X7_cut 3 rfl) rfl ?_
    refine lv_i2b (v := ((a1).toInt32).toInt8.toInt32) X.1 X.2.1 (dck_at da_X7_cut 4 rfl) rfl ?_
    refine lv_i2l (v := (((a1).toInt32).toInt8.toInt32).toInt64) X.1 X.2.1 (dck_at da_X7_cut 5 rfl) rfl ?_
    exact gr_lretO X Y h hr hlk (dck_at da_X7_cut 6 rfl)
  have h := gI_neg h c0
  by_cases c1 : a0 = (1 : Int32)
  · have h := gI_pos h c1
    refine lv_tableIn (tgt := 33) (off := 32) X.1 X.2.1 (dck_at da_X7_cut 1 rfl) (by rw [c1]; decide) (by rw [c1]; decide) (by rw [c1]; rfl) rfl ?_
    refine lv_lload_n X.1 X.2.1 (dck_at da_X7_cut 7 rfl) rfl (lv_at hl 1 rfl) ?_
    refine lv_l2i (v := (a1).toInt32) X.1 X.2.1 (dck_at da_X7_cut 8 rfl) rfl ?_
    refine lv_i2s (v := ((a1).toInt32).toInt16.toInt32) X.1 X.2.1 (dck_at da_X7_cut 9 rfl) rfl ?_
    refine lv_i2l (v := (((a1).toInt32).toInt16.toInt32).toInt64) X.1 X.2.1 (dck_at da_X7_cut 10 rfl) rfl ?_
    exact gr_lretO X Y h hr hlk (dck_at da_X7_cut 11 rfl)
  have h := gI_neg h c1
  by_cases c2 : a0 = (2 : Int32)
  · have h := gI_pos h c2
    refine lv_tableIn (tgt := 38) (off := 37) X.1 X.2.1 (dck_at da_X7_cut 1 rfl) (by rw [c2]; decide) (by rw [c2]; decide) (by rw [c2]; rfl) rfl ?_
    refine lv_lload_n X.1 X.2.1 (dck_at da_X7_cut 12 rfl) rfl (lv_at hl 1 rfl) ?_
    refine lv_l2i (v := (a1).toInt32) X.1 X.2.1 (dck_at da_X7_cut 13 rfl) rfl ?_
    refine lv_i2l (v := ((a1).toInt32).toInt64) X.1 X.2.1 (dck_at da_X7_cut 14 rfl) rfl ?_
    exact gr_lretO X Y h hr hlk (dck_at da_X7_cut 15 rfl)
  have h := gI_neg h c2
  refine lv_tableOut (tgt := 42) X.1 X.2.1 (dck_at da_X7_cut 1 rfl) (by have t0 := lv_neT (a := 0) c0 rfl; have t1 := lv_neT (a := 1) c1 rfl; have t2 := lv_neT (a := 2) c2 rfl; omega) rfl ?_
  refine lv_lload_n X.1 X.2.1 (dck_at da_X7_cut 16 rfl) rfl (lv_at hl 1 rfl) ?_
  exact gr_lretO X Y h hr hlk (dck_at da_X7_cut 17 rfl)
set_option maxRecDepth 100000 in
set_option maxHeartbeats 4000000 in
theorem ok_c_Sheets_put {l : Launch} {D : va_G} {cy : Nat → ClassId} {ad sa : Nat → Nat} {A : Nat → Prop} {F : Nat} {a1 : Int32} {a2 : Int32} {a3 : Int64} {s0 : St} {σ' : St} (h : c_Sheets_put F a1 a2 a3 s0 = some σ') : gMv l shC D cy ad sa A yX7_put cX7_put 5 none 2 [.ref (ad 76), .int a1, .int a2, .long a3] s0 σ' := by
  refine gM_of (by decide) (Nat.le_of_ble_eq_true rfl) ?_
  intro p e s m args below meth c ls X G Y hr hlk hl
  have hl : lv_has ls 5 [(0, .ref (ad 76)), (1, .int a1), (2, .int a2), (3, .long a3)] := hl
  unfold c_Sheets_put at h
  refine lv_aload_n X.1 X.2.1 (dck_at da_X7_put 0 rfl) rfl (lv_at hl 0 rfl) ?_
  refine gr_getR X G Y fk_RX7_11 clC_76 rfl (dck_at da_X7_put 1 rfl) ?_
  refine lv_iload_n X.1 X.2.1 (dck_at da_X7_put 2 rfl) rfl (lv_at hl 1 rfl) ?_
  refine lv_bipush X.1 X.2.1 (dck_at da_X7_put 3 rfl) kb_24 ?_
  refine lv_imul X.1 X.2.1 (dck_at da_X7_put 4 rfl) ?_
  refine lv_iload_n X.1 X.2.1 (dck_at da_X7_put 5 rfl) rfl (lv_at hl 2 rfl) ?_
  refine lv_iadd X.1 X.2.1 (dck_at da_X7_put 6 rfl) ?_
  refine lv_aload_n X.1 X.2.1 (dck_at da_X7_put 7 rfl) rfl (lv_at hl 0 rfl) ?_
  refine gr_getR X G Y fk_RX7_15 clC_76 rfl (dck_at da_X7_put 8 rfl) ?_
  refine lv_iload_n X.1 X.2.1 (dck_at da_X7_put 9 rfl) rfl (lv_at hl 1 rfl) ?_
  obtain ⟨hin, h⟩ := gI_if h
  refine gr_iald X G Y clC_78 hin (dck_at da_X7_put 10 rfl) ?_
  refine lv_lload_n X.1 X.2.1 (dck_at da_X7_put 11 rfl) rfl (lv_at hl 3 rfl) ?_
  obtain ⟨r1, s1, hc, h⟩ := gB2_some h
  refine gr_backl Y (gr_runS (as := [.int (s0.1 78 (a1).toNatClampNeg), .long a3]) (rest := [.int ((a1 * (24 : Int32)) + a2), .ref (ad 77)]) X G Y (ok_c_Sheets_cut hc) cs_RX7_39 ⟨Nat.le_of_ble_eq_true rfl, Nat.le_of_ble_eq_true rfl⟩ rfl hl.1 (Nat.le_of_ble_eq_true rfl) (dck_at da_X7_put 12 rfl)) (fun H locs Y => ?_)
  obtain ⟨hin, h⟩ := gI_if h
  refine gr_last X G Y clC_77 hin (dck_at da_X7_put 13 rfl) (fun H locs Y => ?_)
  exact gr_vretO X Y h hr hlk (dck_at da_X7_put 14 rfl)
set_option maxRecDepth 100000 in
set_option maxHeartbeats 4000000 in
theorem ok_c_film {l : Launch} {D : va_G} {cy : Nat → ClassId} {ad sa : Nat → Nat} {A : Nat → Prop} {F : Nat} {a1 : Int32} {a2 : Int32} {a3 : Int32} {a4 : Int32} {s0 : St} {ρ : Int32} {σ' : St} (h : c_film F a1 a2 a3 a4 s0 = some (ρ, σ')) : gMi l shC D cy ad sa A yX11_film cX11_film 9 (some .int) 3 [.ref (ad 0), .int a1, .int a2, .int a3, .int a4] s0 ρ σ' := by
  refine gM_of (by decide) (Nat.le_of_ble_eq_true rfl) ?_
  intro p e s m args below meth c ls X G Y hr hlk hl
  have hl : lv_has ls 9 [(0, .ref (ad 0)), (1, .int a1), (2, .int a2), (3, .int a3), (4, .int a4)] := hl
  have b24 : ∀  (s0 : St) (H : Heap) (locs : List Loc) (ls : Array Slot), c_film_J24 F  s0 = some (ρ, σ') → gY shC D cy ad A s0 s H locs → lv_has ls 9 [(0, .ref (ad 0))] → W p l e (grm 3) s m args below meth c H locs 0 0 (MQ below (va_Qi (fun (q : Int32) (_ : Unit) => q = ρ) (fun _ t => va_P D vwCl (gWl shC cy ad σ') t.heap) A) args s 0 0 A) (F0 m 24 ls []) := by
    intro s0 H locs ls h Y hl
    unfold c_film_J24 at h
    refine lv_aload_n X.1 X.2.1 (dck_at da_X11_film 11 rfl) rfl (lv_at hl 0 rfl) ?_
    refine lv_iconst X.1 X.2.1 (dck_at da_X11_film 12 rfl) ki_m1 ?_
    obtain ⟨r1, s1, hc, h⟩ := gB2_some h
    refine gr_backi Y (gr_runV (as := [.int (-1 : Int32)]) (rest := []) X G Y (ok_c_refuse hc) cv_RX11_55 clC_0 ⟨Nat.le_of_ble_eq_true rfl, Nat.le_of_ble_eq_true rfl⟩ rfl hl.1 (Nat.le_of_ble_eq_true rfl) (dck_at da_X11_film 13 rfl)) (fun H locs Y => ?_)
    exact gr_iretO X Y h hr rfl hlk (dck_at da_X11_film 14 rfl)
  have b86 : ∀ n : Nat, ∀ (x1 : Int32) (x2 : Int32) (x4 : Int32) (x6 : Int64) (x8 : Int32) (s0 : St) (H : Heap) (locs : List Loc) (ls : Array Slot), c_film_L86 F  n x1 x2 x4 x6 x8 s0 = some (ρ, σ') → gY shC D cy ad A s0 s H locs → lv_has ls 9 [(0, .ref (ad 0)), (1, .int x1), (2, .int x2), (4, .int x4), (6, .long x6), (8, .int x8)] → W p l e (grm 3) s m args below meth c H locs 0 0 (MQ below (va_Qi (fun (q : Int32) (_ : Unit) => q = ρ) (fun _ t => va_P D vwCl (gWl shC cy ad σ') t.heap) A) args s 0 0 A) (F0 m 86 ls []) := by
    intro n
    induction n with
    | zero => intro x1 x2 x4 x6 x8 s0 H locs ls h Y hl; exact (gnone h).elim
    | succ n hk86 =>
      have e : c_film_L86 F  (n + 1) = c_film_L86b F  (c_film_L86 F  n) := rfl
      rw [e]; clear e
      generalize c_film_L86 F  n = k86 at hk86 ⊢
      intro x1 x2 x4 x6 x8 s0 H locs ls h Y hl
      unfold c_film_L86b at h
      refine lv_iload X.1 X.2.1 (dck_at da_X11_film 44 rfl) (lv_at hl 5 rfl) ?_
      refine lv_bipush X.1 X.2.1 (dck_at da_X11_film 45 rfl) kb_12 ?_
      refine lv_icmp_ge (tgt := 135) X.1 X.2.1 (dck_at da_X11_film 46 rfl) rfl (fun c => ?_) (fun c => ?_)
      · have h := gI_pos h c
        refine lv_bipush X.1 X.2.1 (dck_at da_X11_film 68 rfl) kb_12 ?_
        exact gr_iretO X Y h hr rfl hlk (dck_at da_X11_film 69 rfl)
      · have h := gI_neg h c
        refine lv_aload_n X.1 X.2.1 (dck_at da_X11_film 47 rfl) rfl (lv_at hl 0 rfl) ?_
        refine gr_getR X G Y fk_RX11_36 clC_0 rfl (dck_at da_X11_film 48 rfl) ?_
        refine lv_iload_n X.1 X.2.1 (dck_at da_X11_film 49 rfl) rfl (lv_at hl 2 rfl) ?_
        refine lv_iload X.1 X.2.1 (dck_at da_X11_film 50 rfl) (lv_at hl 3 rfl) ?_
        refine lv_iload X.1 X.2.1 (dck_at da_X11_film 51 rfl) (lv_at hl 5 rfl) ?_
        refine lv_iadd X.1 X.2.1 (dck_at da_X11_film 52 rfl) ?_
        refine lv_aload_n X.1 X.2.1 (dck_at da_X11_film 53 rfl) rfl (lv_at hl 0 rfl) ?_
        refine gr_getR X G Y fk_RX11_12 clC_0 rfl (dck_at da_X11_film 54 rfl) ?_
        refine gr_getR X G Y fk_RX11_122 clC_1 rfl (dck_at da_X11_film 55 rfl) ?_
        refine lv_iload_n X.1 X.2.1 (dck_at da_X11_film 56 rfl) rfl (lv_at hl 1 rfl) ?_
        refine lv_bipush X.1 X.2.1 (dck_at da_X11_film 57 rfl) kb_12 ?_
        refine lv_imul X.1 X.2.1 (dck_at da_X11_film 58 rfl) ?_
        refine lv_iload X.1 X.2.1 (dck_at da_X11_film 59 rfl) (lv_at hl 5 rfl) ?_
        refine lv_iadd X.1 X.2.1 (dck_at da_X11_film 60 rfl) ?_
        obtain ⟨r2, s2, hc, h⟩ := gB2_some h
        refine gr_backl Y (gr_runV (as := [.int ((x1 * (12 : Int32)) + x8)]) (rest := [.int (x4 + x8), .int x2, .ref (ad 76)]) X G Y (ok_c_Night_together hc) cv_RX11_151 clC_9 ⟨Nat.le_of_ble_eq_true rfl, Nat.le_of_ble_eq_true rfl⟩ rfl hl.1 (Nat.le_of_ble_eq_true rfl) (dck_at da_X11_film 61 rfl)) (fun H locs Y => ?_)
        refine lv_lload X.1 X.2.1 (dck_at da_X11_film 62 rfl) (lv_at hl 4 rfl) ?_
        obtain ⟨r3, s3, hc, h⟩ := gB2_some h
        refine gr_backi Y (gr_runS (as := [.long r2, .long x6]) (rest := [.int (x4 + x8), .int x2, .ref (ad 76)]) X G Y (ok_c_thousandths hc) cs_RX11_220 ⟨Nat.le_of_ble_eq_true rfl, Nat.le_of_ble_eq_true rfl⟩ rfl hl.1 (Nat.le_of_ble_eq_true rfl) (dck_at da_X11_film 63 rfl)) (fun H locs Y => ?_)
        refine lv_i2l (v := (r3).toInt64) X.1 X.2.1 (dck_at da_X11_film 64 rfl) rfl ?_
        obtain ⟨s4, hc, h⟩ := gB_some h
        refine gr_backv Y (gr_runV (as := [.int x2, .int (x4 + x8), .long ((r3).toInt64)]) (rest := []) X G Y (ok_c_Sheets_put hc) cv_RX11_337 clC_76 ⟨Nat.le_of_ble_eq_true rfl, Nat.le_of_ble_eq_true rfl⟩ rfl hl.1 (Nat.le_of_ble_eq_true rfl) (dck_at da_X11_film 65 rfl)) (fun H locs Y => ?_)
        refine lv_iinc (v := x8 + (1 : Int32)) (lv' := [(8, .int (x8 + (1 : Int32))), (0, .ref (ad 0)), (1, .int x1), (2, .int x2), (4, .int x4), (6, .long x6)]) X.1 X.2.1 (dck_at da_X11_film 66 rfl) hl (k := 5) rfl (congrArg (HAdd.hAdd _) ki_1) (by decide) rfl (fun ls hl => ?_)
        refine lv_goto (tgt := 86) X.1 X.2.1 (dck_at da_X11_film 67 rfl) rfl ?_
        exact hk86 x1 x2 x4 x6 (x8 + (1 : Int32)) s4 _ _ _ h Y (lv_sub hl [1, 2, 3, 4, 5, 0] rfl)
  unfold c_film at h
  refine lv_iload_n X.1 X.2.1 (dck_at da_X11_film 0 rfl) rfl (lv_at hl 1 rfl) ?_
  refine lv_iconst X.1 X.2.1 (dck_at da_X11_film 1 rfl) ki_0 ?_
  refine lv_bipush X.1 X.2.1 (dck_at da_X11_film 2 rfl) kb_11 ?_
  obtain ⟨r5, s5, hc, h⟩ := gB2_some h
  refine gr_backi Y (gr_runS (as := [.int a1, .int (0 : Int32), .int (11 : Int32)]) (rest := []) X G Y (ok_c_isIn hc) cs_RX11_68 ⟨Nat.le_of_ble_eq_true rfl, Nat.le_of_ble_eq_true rfl⟩ rfl hl.1 (Nat.le_of_ble_eq_true rfl) (dck_at da_X11_film 3 rfl)) (fun H locs Y => ?_)
  refine lv_if_eq (tgt := 24) X.1 X.2.1 (dck_at da_X11_film 4 rfl) rfl (fun c => ?_) (fun c => ?_)
  · have h := gI_pos h c
    exact b24 s5 _ _ _ h Y (lv_sub hl [0] rfl)
  · have h := gI_neg h c
    refine lv_iload_n X.1 X.2.1 (dck_at da_X11_film 5 rfl) rfl (lv_at hl 2 rfl) ?_
    obtain ⟨r6, s6, hc, h⟩ := gB2_some h
    refine gr_backi Y (gr_runS (as := [.int a2]) (rest := []) X G Y (ok_c_Sheets_isSheet hc) cs_RX11_321 ⟨Nat.le_of_ble_eq_true rfl, Nat.le_of_ble_eq_true rfl⟩ rfl hl.1 (Nat.le_of_ble_eq_true rfl) (dck_at da_X11_film 6 rfl)) (fun H locs Y => ?_)
    refine lv_if_eq (tgt := 24) X.1 X.2.1 (dck_at da_X11_film 7 rfl) rfl (fun c => ?_) (fun c => ?_)
    · have h := gI_pos h c
      exact b24 s6 _ _ _ h Y (lv_sub hl [0] rfl)
    · have h := gI_neg h c
      refine lv_iload_n X.1 X.2.1 (dck_at da_X11_film 8 rfl) rfl (lv_at hl 3 rfl) ?_
      obtain ⟨r7, s7, hc, h⟩ := gB2_some h
      refine gr_backi Y (gr_runS (as := [.int a3]) (rest := []) X G Y (ok_c_Sheets_isLane hc) cs_RX11_324 ⟨Nat.le_of_ble_eq_true rfl, Nat.le_of_ble_eq_true rfl⟩ rfl hl.1 (Nat.le_of_ble_eq_true rfl) (dck_at da_X11_film 9 rfl)) (fun H locs Y => ?_)
      refine lv_if_ne (tgt := 30) X.1 X.2.1 (dck_at da_X11_film 10 rfl) rfl (fun c => ?_) (fun c => ?_)
      · have h := gI_neg h c
        refine lv_aload_n X.1 X.2.1 (dck_at da_X11_film 15 rfl) rfl (lv_at hl 0 rfl) ?_
        refine gr_getR X G Y fk_RX11_36 clC_0 rfl (dck_at da_X11_film 16 rfl) ?_
        refine lv_iload_n X.1 X.2.1 (dck_at da_X11_film 17 rfl) rfl (lv_at hl 2 rfl) ?_
        refine lv_iload_n X.1 X.2.1 (dck_at da_X11_film 18 rfl) rfl (lv_at hl 3 rfl) ?_
        refine lv_iload X.1 X.2.1 (dck_at da_X11_film 19 rfl) (lv_at hl 4 rfl) ?_
        refine lv_bipush X.1 X.2.1 (dck_at da_X11_film 20 rfl) kb_12 ?_
        obtain ⟨r8, s8, hc, h⟩ := gB2_some h
        refine gr_backi Y (gr_runV (as := [.int a2, .int a3, .int a4, .int (12 : Int32)]) (rest := []) X G Y (ok_c_Sheets_wrong hc) cv_RX11_327 clC_76 ⟨Nat.le_of_ble_eq_true rfl, Nat.le_of_ble_eq_true rfl⟩ rfl hl.1 (Nat.le_of_ble_eq_true rfl) (dck_at da_X11_film 21 rfl)) (fun H locs Y => ?_)
        refine lv_istore (lv' := [(5, .int r8), (0, .ref (ad 0)), (1, .int a1), (2, .int a2), (3, .int a3), (4, .int a4)]) X.1 X.2.1 (dck_at da_X11_film 22 rfl) hl (by decide) rfl (fun ls hl => ?_)
        refine lv_iload X.1 X.2.1 (dck_at da_X11_film 23 rfl) (lv_at hl 0 rfl) ?_
        refine lv_if_ge (tgt := 57) X.1 X.2.1 (dck_at da_X11_film 24 rfl) rfl (fun c => ?_) (fun c => ?_)
        · have h := gI_pos h c
          refine lv_aload_n X.1 X.2.1 (dck_at da_X11_film 29 rfl) rfl (lv_at hl 1 rfl) ?_
          refine gr_getR X G Y fk_RX11_12 clC_0 rfl (dck_at da_X11_film 30 rfl) ?_
          refine gr_getR X G Y fk_RX11_122 clC_1 rfl (dck_at da_X11_film 31 rfl) ?_
          obtain ⟨r9, s9, hc, h⟩ := gB2_some h
          refine gr_backl Y (gr_runV (as := []) (rest := []) X G Y (ok_c_Night_all hc) cv_RX11_158 clC_9 ⟨Nat.le_of_ble_eq_true rfl, Nat.le_of_ble_eq_true rfl⟩ rfl hl.1 (Nat.le_of_ble_eq_true rfl) (dck_at da_X11_film 32 rfl)) (fun H locs Y => ?_)
          refine lv_lstore (lv' := [(6, .long r9), (5, .int r8), (0, .ref (ad 0)), (1, .int a1), (2, .int a2), (3, .int a3), (4, .int a4)]) X.1 X.2.1 (dck_at da_X11_film 33 rfl) hl (by decide) rfl (fun ls hl => ?_)
          refine lv_lload X.1 X.2.1 (dck_at da_X11_film 34 rfl) (lv_at hl 0 rfl) ?_
          refine lv_lconst (v := 0) X.1 X.2.1 (dck_at da_X11_film 35 rfl) rfl ?_
          refine W.lcmp X.1 X.2.1 (dck_at da_X11_film 36 rfl) ?_
          refine lv_if_gt (tgt := 83) X.1 X.2.1 (dck_at da_X11_film 37 rfl) rfl (fun c => ?_) (fun c => ?_)
          · have h := gI_pos h c
            refine lv_iconst X.1 X.2.1 (dck_at da_X11_film 42 rfl) ki_0 ?_
            refine lv_istore (lv' := [(8, .int (0 : Int32)), (6, .long r9), (5, .int r8), (0, .ref (ad 0)), (1, .int a1), (2, .int a2), (3, .int a3), (4, .int a4)]) X.1 X.2.1 (dck_at da_X11_film 43 rfl) hl (by decide) rfl (fun ls hl => ?_)
            exact b86 F a1 a2 a4 r9 (0 : Int32) s9 _ _ _ h Y (lv_sub hl [3, 4, 5, 7, 1, 0] rfl)
          · have h := gI_neg h c
            refine lv_aload_n X.1 X.2.1 (dck_at da_X11_film 38 rfl) rfl (lv_at hl 2 rfl) ?_
            refine lv_bipush X.1 X.2.1 (dck_at da_X11_film 39 rfl) kb_m4 ?_
            obtain ⟨r10, s10, hc, h⟩ := gB2_some h
            refine gr_backi Y (gr_runV (as := [.int (-4 : Int32)]) (rest := []) X G Y (ok_c_refuse hc) cv_RX11_55 clC_0 ⟨Nat.le_of_ble_eq_true rfl, Nat.le_of_ble_eq_true rfl⟩ rfl hl.1 (Nat.le_of_ble_eq_true rfl) (dck_at da_X11_film 40 rfl)) (fun H locs Y => ?_)
            exact gr_iretO X Y h hr rfl hlk (dck_at da_X11_film 41 rfl)
        · have h := gI_neg h c
          refine lv_aload_n X.1 X.2.1 (dck_at da_X11_film 25 rfl) rfl (lv_at hl 1 rfl) ?_
          refine lv_iload X.1 X.2.1 (dck_at da_X11_film 26 rfl) (lv_at hl 0 rfl) ?_
          obtain ⟨r11, s11, hc, h⟩ := gB2_some h
          refine gr_backi Y (gr_runV (as := [.int r8]) (rest := []) X G Y (ok_c_refuse hc) cv_RX11_55 clC_0 ⟨Nat.le_of_ble_eq_true rfl, Nat.le_of_ble_eq_true rfl⟩ rfl hl.1 (Nat.le_of_ble_eq_true rfl) (dck_at da_X11_film 27 rfl)) (fun H locs Y => ?_)
          exact gr_iretO X Y h hr rfl hlk (dck_at da_X11_film 28 rfl)
      · have h := gI_pos h c
        exact b24 s7 _ _ _ h Y (lv_sub hl [0] rfl)
set_option maxRecDepth 100000 in
set_option maxHeartbeats 4000000 in
theorem ok_c_Arrays_rangeCheck {l : Launch} {D : va_G} {cy : Nat → ClassId} {ad sa : Nat → Nat} {A : Nat → Prop} {F : Nat} {a0 : Int32} {a1 : Int32} {a2 : Int32} {s0 : St} {σ' : St} (h : c_Arrays_rangeCheck F a0 a1 a2 s0 = some σ') : gMv l shC D cy ad sa A yJ7_rangeCheck_23922 cJ7_rangeCheck_23922 3 none 1 [.int a0, .int a1, .int a2] s0 σ' := by
  refine gM_of (by decide) (Nat.le_of_ble_eq_true rfl) ?_
  intro p e s m args below meth c ls X G Y hr hlk hl
  have hl : lv_has ls 3 [(0, .int a0), (1, .int a1), (2, .int a2)] := hl
  unfold c_Arrays_rangeCheck at h
  refine lv_iload_n X.1 X.2.1 (dck_at da_J7_rangeCheck_23922 0 rfl) rfl (lv_at hl 1 rfl) ?_
  refine lv_iload_n X.1 X.2.1 (dck_at da_J7_rangeCheck_23922 1 rfl) rfl (lv_at hl 2 rfl) ?_
  refine lv_icmp_le (tgt := 46) X.1 X.2.1 (dck_at da_J7_rangeCheck_23922 2 rfl) rfl (fun c => ?_) (fun c => ?_)
  · have h := gI_pos h c
    refine lv_iload_n X.1 X.2.1 (dck_at da_J7_rangeCheck_23922 21 rfl) rfl (lv_at hl 1 rfl) ?_
    refine lv_if_ge (tgt := 59) X.1 X.2.1 (dck_at da_J7_rangeCheck_23922 22 rfl) rfl (fun c => ?_) (fun c => ?_)
    · have h := gI_pos h c
      refine lv_iload_n X.1 X.2.1 (dck_at da_J7_rangeCheck_23922 28 rfl) rfl (lv_at hl 2 rfl) ?_
      refine lv_iload_n X.1 X.2.1 (dck_at da_J7_rangeCheck_23922 29 rfl) rfl (lv_at hl 0 rfl) ?_
      refine lv_icmp_le (tgt := 73) X.1 X.2.1 (dck_at da_J7_rangeCheck_23922 30 rfl) rfl (fun c => ?_) (fun c => ?_)
      · have h := gI_pos h c
        exact gr_vretO X Y h hr hlk (dck_at da_J7_rangeCheck_23922 36 rfl)
      · have h := gI_neg h c
        exact (gnone h).elim
    · have h := gI_neg h c
      exact (gnone h).elim
  · have h := gI_neg h c
    exact (gnone h).elim
set_option maxRecDepth 100000 in
set_option maxHeartbeats 4000000 in
theorem ok_c_Arrays_fill_bad5a {l : Launch} {D : va_G} {cy : Nat → ClassId} {ad sa : Nat → Nat} {A : Nat → Prop} {F : Nat} {a1 : Int32} {a2 : Int32} {a3 : Int64} {s0 : St} {σ' : St} (h : c_Arrays_fill_bad5a F a1 a2 a3 s0 = some σ') : gMv l shC D cy ad sa A yJ7_fill_bad5a cJ7_fill_bad5a 6 none 2 [.ref (ad 77), .int a1, .int a2, .long a3] s0 σ' := by
  refine gM_of (by decide) (Nat.le_of_ble_eq_true rfl) ?_
  intro p e s m args below meth c ls X G Y hr hlk hl
  have hl : lv_has ls 6 [(0, .ref (ad 77)), (1, .int a1), (2, .int a2), (3, .long a3)] := hl
  have b10 : ∀ n : Nat, ∀ (x2 : Int32) (x3 : Int64) (x5 : Int32) (s0 : St) (H : Heap) (locs : List Loc) (ls : Array Slot), c_Arrays_fill_bad5a_L10 F  n x2 x3 x5 s0 = some σ' → gY shC D cy ad A s0 s H locs → lv_has ls 6 [(0, .ref (ad 77)), (2, .int x2), (3, .long x3), (5, .int x5)] → W p l e (grm 2) s m args below meth c H locs 0 0 (MQ below (va_Qv (fun (_ : Unit) => True) (fun _ t => va_P D vwCl (gWl shC cy ad σ') t.heap) A) args s 0 0 A) (F0 m 10 ls []) := by
    intro n
    induction n with
    | zero => intro x2 x3 x5 s0 H locs ls h Y hl; exact (gnone h).elim
    | succ n hk10 =>
      have e : c_Arrays_fill_bad5a_L10 F  (n + 1) = c_Arrays_fill_bad5a_L10b F  (c_Arrays_fill_bad5a_L10 F  n) := rfl
      rw [e]; clear e
      generalize c_Arrays_fill_bad5a_L10 F  n = k10 at hk10 ⊢
      intro x2 x3 x5 s0 H locs ls h Y hl
      unfold c_Arrays_fill_bad5a_L10b at h
      refine lv_iload X.1 X.2.1 (dck_at da_J7_fill_bad5a 7 rfl) (lv_at hl 3 rfl) ?_
      refine lv_iload_n X.1 X.2.1 (dck_at da_J7_fill_bad5a 8 rfl) rfl (lv_at hl 1 rfl) ?_
      refine lv_icmp_ge (tgt := 27) X.1 X.2.1 (dck_at da_J7_fill_bad5a 9 rfl) rfl (fun c => ?_) (fun c => ?_)
      · have h := gI_pos h c
        exact gr_vretO X Y h hr hlk (dck_at da_J7_fill_bad5a 16 rfl)
      · have h := gI_neg h c
        refine lv_aload_n X.1 X.2.1 (dck_at da_J7_fill_bad5a 10 rfl) rfl (lv_at hl 0 rfl) ?_
        refine lv_iload X.1 X.2.1 (dck_at da_J7_fill_bad5a 11 rfl) (lv_at hl 3 rfl) ?_
        refine lv_lload_n X.1 X.2.1 (dck_at da_J7_fill_bad5a 12 rfl) rfl (lv_at hl 2 rfl) ?_
        obtain ⟨hin, h⟩ := gI_if h
        refine gr_last X G Y clC_77 hin (dck_at da_J7_fill_bad5a 13 rfl) (fun H locs Y => ?_)
        refine lv_iinc (v := x5 + (1 : Int32)) (lv' := [(5, .int (x5 + (1 : Int32))), (0, .ref (ad 77)), (2, .int x2), (3, .long x3)]) X.1 X.2.1 (dck_at da_J7_fill_bad5a 14 rfl) hl (k := 3) rfl (congrArg (HAdd.hAdd _) ki_1) (by decide) rfl (fun ls hl => ?_)
        refine lv_goto (tgt := 10) X.1 X.2.1 (dck_at da_J7_fill_bad5a 15 rfl) rfl ?_
        exact hk10 x2 x3 (x5 + (1 : Int32)) (sJ s0 77 (x5).toNatClampNeg x3) _ _ _ h Y (lv_sub hl [1, 2, 3, 0] rfl)
  unfold c_Arrays_fill_bad5a at h
  refine lv_aload_n X.1 X.2.1 (dck_at da_J7_fill_bad5a 0 rfl) rfl (lv_at hl 0 rfl) ?_
  refine gr_alen (v := 96) X G Y clC_77 (by decide) rfl (dck_at da_J7_fill_bad5a 1 rfl) ?_
  refine lv_iload_n X.1 X.2.1 (dck_at da_J7_fill_bad5a 2 rfl) rfl (lv_at hl 1 rfl) ?_
  refine lv_iload_n X.1 X.2.1 (dck_at da_J7_fill_bad5a 3 rfl) rfl (lv_at hl 2 rfl) ?_
  obtain ⟨s1, hc, h⟩ := gB_some h
  refine gr_backv Y (gr_runS (as := [.int (96 : Int32), .int a1, .int a2]) (rest := []) X G Y (ok_c_Arrays_rangeCheck hc) cs_RJ7_13 ⟨Nat.le_of_ble_eq_true rfl, Nat.le_of_ble_eq_true rfl⟩ rfl hl.1 (Nat.le_of_ble_eq_true rfl) (dck_at da_J7_fill_bad5a 4 rfl)) (fun H locs Y => ?_)
  refine lv_iload_n X.1 X.2.1 (dck_at da_J7_fill_bad5a 5 rfl) rfl (lv_at hl 1 rfl) ?_
  refine lv_istore (lv' := [(5, .int a1), (0, .ref (ad 77)), (1, .int a1), (2, .int a2), (3, .long a3)]) X.1 X.2.1 (dck_at da_J7_fill_bad5a 6 rfl) hl (by decide) rfl (fun ls hl => ?_)
  exact b10 F a2 a3 a1 s1 _ _ _ h Y (lv_sub hl [1, 3, 4, 0] rfl)
set_option maxRecDepth 100000 in
set_option maxHeartbeats 4000000 in
theorem ok_c_Sheets_renew {l : Launch} {D : va_G} {cy : Nat → ClassId} {ad sa : Nat → Nat} {A : Nat → Prop} {F : Nat} {a1 : Int32} {a2 : Int32} {a3 : Int32} {s0 : St} {σ' : St} (h : c_Sheets_renew F a1 a2 a3 s0 = some σ') : gMv l shC D cy ad sa A yX7_renew cX7_renew 4 none 3 [.ref (ad 76), .int a1, .int a2, .int a3] s0 σ' := by
  refine gM_of (by decide) (Nat.le_of_ble_eq_true rfl) ?_
  intro p e s m args below meth c ls X G Y hr hlk hl
  have hl : lv_has ls 4 [(0, .ref (ad 76)), (1, .int a1), (2, .int a2), (3, .int a3)] := hl
  unfold c_Sheets_renew at h
  refine lv_aload_n X.1 X.2.1 (dck_at da_X7_renew 0 rfl) rfl (lv_at hl 0 rfl) ?_
  refine gr_getR X G Y fk_RX7_15 clC_76 rfl (dck_at da_X7_renew 1 rfl) ?_
  refine lv_iload_n X.1 X.2.1 (dck_at da_X7_renew 2 rfl) rfl (lv_at hl 1 rfl) ?_
  refine lv_iload_n X.1 X.2.1 (dck_at da_X7_renew 3 rfl) rfl (lv_at hl 2 rfl) ?_
  obtain ⟨hin, h⟩ := gI_if h
  refine gr_iast X G Y clC_78 hin (dck_at da_X7_renew 4 rfl) (fun H locs Y => ?_)
  refine lv_aload_n X.1 X.2.1 (dck_at da_X7_renew 5 rfl) rfl (lv_at hl 0 rfl) ?_
  refine gr_getR X G Y fk_RX7_19 clC_76 rfl (dck_at da_X7_renew 6 rfl) ?_
  refine lv_iload_n X.1 X.2.1 (dck_at da_X7_renew 7 rfl) rfl (lv_at hl 1 rfl) ?_
  refine lv_iload_n X.1 X.2.1 (dck_at da_X7_renew 8 rfl) rfl (lv_at hl 3 rfl) ?_
  obtain ⟨hin, h⟩ := gI_if h
  refine gr_iast X G Y clC_79 hin (dck_at da_X7_renew 9 rfl) (fun H locs Y => ?_)
  refine lv_aload_n X.1 X.2.1 (dck_at da_X7_renew 10 rfl) rfl (lv_at hl 0 rfl) ?_
  refine gr_getR X G Y fk_RX7_11 clC_76 rfl (dck_at da_X7_renew 11 rfl) ?_
  refine lv_iload_n X.1 X.2.1 (dck_at da_X7_renew 12 rfl) rfl (lv_at hl 1 rfl) ?_
  refine lv_bipush X.1 X.2.1 (dck_at da_X7_renew 13 rfl) kb_24 ?_
  refine lv_imul X.1 X.2.1 (dck_at da_X7_renew 14 rfl) ?_
  refine lv_iload_n X.1 X.2.1 (dck_at da_X7_renew 15 rfl) rfl (lv_at hl 1 rfl) ?_
  refine lv_bipush X.1 X.2.1 (dck_at da_X7_renew 16 rfl) kb_24 ?_
  refine lv_imul X.1 X.2.1 (dck_at da_X7_renew 17 rfl) ?_
  refine lv_bipush X.1 X.2.1 (dck_at da_X7_renew 18 rfl) kb_24 ?_
  refine lv_iadd X.1 X.2.1 (dck_at da_X7_renew 19 rfl) ?_
  refine lv_lconst (v := 0) X.1 X.2.1 (dck_at da_X7_renew 20 rfl) rfl ?_
  obtain ⟨s1, hc, h⟩ := gB_some h
  refine gr_backv Y (gr_runS (as := [.ref (ad 77), .int (a1 * (24 : Int32)), .int ((a1 * (24 : Int32)) + (24 : Int32)), .long (0 : Int64)]) (rest := []) X G Y (ok_c_Arrays_fill_bad5a hc) cs_RX7_33 ⟨Nat.le_of_ble_eq_true rfl, Nat.le_of_ble_eq_true rfl⟩ rfl hl.1 (Nat.le_of_ble_eq_true rfl) (dck_at da_X7_renew 21 rfl)) (fun H locs Y => ?_)
  exact gr_vretO X Y h hr hlk (dck_at da_X7_renew 22 rfl)
set_option maxRecDepth 100000 in
set_option maxHeartbeats 4000000 in
theorem ok_c_sheet {l : Launch} {D : va_G} {cy : Nat → ClassId} {ad sa : Nat → Nat} {A : Nat → Prop} {F : Nat} {a1 : Int32} {a2 : Int32} {a3 : Int32} {s0 : St} {ρ : Int32} {σ' : St} (h : c_sheet F a1 a2 a3 s0 = some (ρ, σ')) : gMi l shC D cy ad sa A yX11_sheet cX11_sheet 4 (some .int) 4 [.ref (ad 0), .int a1, .int a2, .int a3] s0 ρ σ' := by
  refine gM_of (by decide) (Nat.le_of_ble_eq_true rfl) ?_
  intro p e s m args below meth c ls X G Y hr hlk hl
  have hl : lv_has ls 4 [(0, .ref (ad 0)), (1, .int a1), (2, .int a2), (3, .int a3)] := hl
  have b20 : ∀  (s0 : St) (H : Heap) (locs : List Loc) (ls : Array Slot), c_sheet_J20 F  s0 = some (ρ, σ') → gY shC D cy ad A s0 s H locs → lv_has ls 4 [(0, .ref (ad 0))] → W p l e (grm 4) s m args below meth c H locs 0 0 (MQ below (va_Qi (fun (q : Int32) (_ : Unit) => q = ρ) (fun _ t => va_P D vwCl (gWl shC cy ad σ') t.heap) A) args s 0 0 A) (F0 m 20 ls []) := by
    intro s0 H locs ls h Y hl
    unfold c_sheet_J20 at h
    refine lv_aload_n X.1 X.2.1 (dck_at da_X11_sheet 9 rfl) rfl (lv_at hl 0 rfl) ?_
    refine lv_iconst X.1 X.2.1 (dck_at da_X11_sheet 10 rfl) ki_m1 ?_
    obtain ⟨r1, s1, hc, h⟩ := gB2_some h
    refine gr_backi Y (gr_runV (as := [.int (-1 : Int32)]) (rest := []) X G Y (ok_c_refuse hc) cv_RX11_55 clC_0 ⟨Nat.le_of_ble_eq_true rfl, Nat.le_of_ble_eq_true rfl⟩ rfl hl.1 (Nat.le_of_ble_eq_true rfl) (dck_at da_X11_sheet 11 rfl)) (fun H locs Y => ?_)
    exact gr_iretO X Y h hr rfl hlk (dck_at da_X11_sheet 12 rfl)
  unfold c_sheet at h
  refine lv_iload_n X.1 X.2.1 (dck_at da_X11_sheet 0 rfl) rfl (lv_at hl 1 rfl) ?_
  obtain ⟨r2, s2, hc, h⟩ := gB2_some h
  refine gr_backi Y (gr_runS (as := [.int a1]) (rest := []) X G Y (ok_c_Sheets_isSheet hc) cs_RX11_321 ⟨Nat.le_of_ble_eq_true rfl, Nat.le_of_ble_eq_true rfl⟩ rfl hl.1 (Nat.le_of_ble_eq_true rfl) (dck_at da_X11_sheet 1 rfl)) (fun H locs Y => ?_)
  refine lv_if_eq (tgt := 20) X.1 X.2.1 (dck_at da_X11_sheet 2 rfl) rfl (fun c => ?_) (fun c => ?_)
  · have h := gI_pos h c
    exact b20 s2 _ _ _ h Y (lv_sub hl [0] rfl)
  · have h := gI_neg h c
    refine lv_iload_n X.1 X.2.1 (dck_at da_X11_sheet 3 rfl) rfl (lv_at hl 2 rfl) ?_
    obtain ⟨r3, s3, hc, h⟩ := gB2_some h
    refine gr_backi Y (gr_runS (as := [.int a2]) (rest := []) X G Y (ok_c_Sheets_isLane hc) cs_RX11_324 ⟨Nat.le_of_ble_eq_true rfl, Nat.le_of_ble_eq_true rfl⟩ rfl hl.1 (Nat.le_of_ble_eq_true rfl) (dck_at da_X11_sheet 4 rfl)) (fun H locs Y => ?_)
    refine lv_if_eq (tgt := 20) X.1 X.2.1 (dck_at da_X11_sheet 5 rfl) rfl (fun c => ?_) (fun c => ?_)
    · have h := gI_pos h c
      exact b20 s3 _ _ _ h Y (lv_sub hl [0] rfl)
    · have h := gI_neg h c
      refine lv_iload_n X.1 X.2.1 (dck_at da_X11_sheet 6 rfl) rfl (lv_at hl 3 rfl) ?_
      refine lv_bipush X.1 X.2.1 (dck_at da_X11_sheet 7 rfl) kb_24 ?_
      refine lv_icmp_le (tgt := 26) X.1 X.2.1 (dck_at da_X11_sheet 8 rfl) rfl (fun c => ?_) (fun c => ?_)
      · have h := gI_pos h c
        refine lv_iload_n X.1 X.2.1 (dck_at da_X11_sheet 13 rfl) rfl (lv_at hl 3 rfl) ?_
        refine lv_if_ge (tgt := 37) X.1 X.2.1 (dck_at da_X11_sheet 14 rfl) rfl (fun c => ?_) (fun c => ?_)
        · have h := gI_pos h c
          refine lv_aload_n X.1 X.2.1 (dck_at da_X11_sheet 19 rfl) rfl (lv_at hl 0 rfl) ?_
          refine gr_getR X G Y fk_RX11_36 clC_0 rfl (dck_at da_X11_sheet 20 rfl) ?_
          refine lv_iload_n X.1 X.2.1 (dck_at da_X11_sheet 21 rfl) rfl (lv_at hl 1 rfl) ?_
          refine lv_iload_n X.1 X.2.1 (dck_at da_X11_sheet 22 rfl) rfl (lv_at hl 2 rfl) ?_
          refine lv_iload_n X.1 X.2.1 (dck_at da_X11_sheet 23 rfl) rfl (lv_at hl 3 rfl) ?_
          obtain ⟨s4, hc, h⟩ := gB_some h
          refine gr_backv Y (gr_runV (as := [.int a1, .int a2, .int a3]) (rest := []) X G Y (ok_c_Sheets_renew hc) cv_RX11_341 clC_76 ⟨Nat.le_of_ble_eq_true rfl, Nat.le_of_ble_eq_true rfl⟩ rfl hl.1 (Nat.le_of_ble_eq_true rfl) (dck_at da_X11_sheet 24 rfl)) (fun H locs Y => ?_)
          refine lv_iload_n X.1 X.2.1 (dck_at da_X11_sheet 25 rfl) rfl (lv_at hl 3 rfl) ?_
          exact gr_iretO X Y h hr rfl hlk (dck_at da_X11_sheet 26 rfl)
        · have h := gI_neg h c
          refine lv_aload_n X.1 X.2.1 (dck_at da_X11_sheet 15 rfl) rfl (lv_at hl 0 rfl) ?_
          refine lv_bipush X.1 X.2.1 (dck_at da_X11_sheet 16 rfl) kb_m14 ?_
          obtain ⟨r5, s5, hc, h⟩ := gB2_some h
          refine gr_backi Y (gr_runV (as := [.int (-14 : Int32)]) (rest := []) X G Y (ok_c_refuse hc) cv_RX11_55 clC_0 ⟨Nat.le_of_ble_eq_true rfl, Nat.le_of_ble_eq_true rfl⟩ rfl hl.1 (Nat.le_of_ble_eq_true rfl) (dck_at da_X11_sheet 17 rfl)) (fun H locs Y => ?_)
          exact gr_iretO X Y h hr rfl hlk (dck_at da_X11_sheet 18 rfl)
      · have h := gI_neg h c
        exact b20 s3 _ _ _ h Y (lv_sub hl [0] rfl)
set_option maxRecDepth 100000 in
set_option maxHeartbeats 4000000 in
theorem ok_c_Sheets_empty {l : Launch} {D : va_G} {cy : Nat → ClassId} {ad sa : Nat → Nat} {A : Nat → Prop} {F : Nat} {a1 : Int32} {s0 : St} {ρ : Int32} {σ' : St} (h : c_Sheets_empty F a1 s0 = some (ρ, σ')) : gMi l shC D cy ad sa A yX7_empty cX7_empty 2 (some .int) 1 [.ref (ad 76), .int a1] s0 ρ σ' := by
  refine gM_of (by decide) (Nat.le_of_ble_eq_true rfl) ?_
  intro p e s m args below meth c ls X G Y hr hlk hl
  have hl : lv_has ls 2 [(0, .ref (ad 76)), (1, .int a1)] := hl
  unfold c_Sheets_empty at h
  refine lv_aload_n X.1 X.2.1 (dck_at da_X7_empty 0 rfl) rfl (lv_at hl 0 rfl) ?_
  refine gr_getR X G Y fk_RX7_15 clC_76 rfl (dck_at da_X7_empty 1 rfl) ?_
  refine lv_iload_n X.1 X.2.1 (dck_at da_X7_empty 2 rfl) rfl (lv_at hl 1 rfl) ?_
  refine lv_iconst X.1 X.2.1 (dck_at da_X7_empty 3 rfl) ki_m1 ?_
  obtain ⟨hin, h⟩ := gI_if h
  refine gr_iast X G Y clC_78 hin (dck_at da_X7_empty 4 rfl) (fun H locs Y => ?_)
  refine lv_aload_n X.1 X.2.1 (dck_at da_X7_empty 5 rfl) rfl (lv_at hl 0 rfl) ?_
  refine gr_getR X G Y fk_RX7_19 clC_76 rfl (dck_at da_X7_empty 6 rfl) ?_
  refine lv_iload_n X.1 X.2.1 (dck_at da_X7_empty 7 rfl) rfl (lv_at hl 1 rfl) ?_
  obtain ⟨hin, h⟩ := gI_if h
  refine gr_iald X G Y clC_79 hin (dck_at da_X7_empty 8 rfl) ?_
  exact gr_iretO X Y h hr rfl hlk (dck_at da_X7_empty 9 rfl)
set_option maxRecDepth 100000 in
set_option maxHeartbeats 4000000 in
theorem ok_c_drop {l : Launch} {D : va_G} {cy : Nat → ClassId} {ad sa : Nat → Nat} {A : Nat → Prop} {F : Nat} {a1 : Int32} {s0 : St} {ρ : Int32} {σ' : St} (h : c_drop F a1 s0 = some (ρ, σ')) : gMi l shC D cy ad sa A yX11_drop cX11_drop 2 (some .int) 3 [.ref (ad 0), .int a1] s0 ρ σ' := by
  refine gM_of (by decide) (Nat.le_of_ble_eq_true rfl) ?_
  intro p e s m args below meth c ls X G Y hr hlk hl
  have hl : lv_has ls 2 [(0, .ref (ad 0)), (1, .int a1)] := hl
  unfold c_drop at h
  refine lv_iload_n X.1 X.2.1 (dck_at da_X11_drop 0 rfl) rfl (lv_at hl 1 rfl) ?_
  obtain ⟨r1, s1, hc, h⟩ := gB2_some h
  refine gr_backi Y (gr_runS (as := [.int a1]) (rest := []) X G Y (ok_c_Sheets_isSheet hc) cs_RX11_321 ⟨Nat.le_of_ble_eq_true rfl, Nat.le_of_ble_eq_true rfl⟩ rfl hl.1 (Nat.le_of_ble_eq_true rfl) (dck_at da_X11_drop 1 rfl)) (fun H locs Y => ?_)
  refine lv_if_ne (tgt := 13) X.1 X.2.1 (dck_at da_X11_drop 2 rfl) rfl (fun c => ?_) (fun c => ?_)
  · have h := gI_neg h c
    refine lv_aload_n X.1 X.2.1 (dck_at da_X11_drop 7 rfl) rfl (lv_at hl 0 rfl) ?_
    refine gr_getR X G Y fk_RX11_36 clC_0 rfl (dck_at da_X11_drop 8 rfl) ?_
    refine lv_iload_n X.1 X.2.1 (dck_at da_X11_drop 9 rfl) rfl (lv_at hl 1 rfl) ?_
    obtain ⟨r2, s2, hc, h⟩ := gB2_some h
    refine gr_backi Y (gr_runV (as := [.int a1]) (rest := []) X G Y (ok_c_Sheets_isThere hc) cv_RX11_344 clC_76 ⟨Nat.le_of_ble_eq_true rfl, Nat.le_of_ble_eq_true rfl⟩ rfl hl.1 (Nat.le_of_ble_eq_true rfl) (dck_at da_X11_drop 10 rfl)) (fun H locs Y => ?_)
    refine lv_if_ne (tgt := 31) X.1 X.2.1 (dck_at da_X11_drop 11 rfl) rfl (fun c => ?_) (fun c => ?_)
    · have h := gI_neg h c
      refine lv_aload_n X.1 X.2.1 (dck_at da_X11_drop 16 rfl) rfl (lv_at hl 0 rfl) ?_
      refine gr_getR X G Y fk_RX11_36 clC_0 rfl (dck_at da_X11_drop 17 rfl) ?_
      refine lv_iload_n X.1 X.2.1 (dck_at da_X11_drop 18 rfl) rfl (lv_at hl 1 rfl) ?_
      obtain ⟨r3, s3, hc, h⟩ := gB2_some h
      refine gr_backi Y (gr_runV (as := [.int a1]) (rest := []) X G Y (ok_c_Sheets_empty hc) cv_RX11_347 clC_76 ⟨Nat.le_of_ble_eq_true rfl, Nat.le_of_ble_eq_true rfl⟩ rfl hl.1 (Nat.le_of_ble_eq_true rfl) (dck_at da_X11_drop 19 rfl)) (fun H locs Y => ?_)
      exact gr_iretO X Y h hr rfl hlk (dck_at da_X11_drop 20 rfl)
    · have h := gI_pos h c
      refine lv_aload_n X.1 X.2.1 (dck_at da_X11_drop 12 rfl) rfl (lv_at hl 0 rfl) ?_
      refine lv_bipush X.1 X.2.1 (dck_at da_X11_drop 13 rfl) kb_m11 ?_
      obtain ⟨r4, s4, hc, h⟩ := gB2_some h
      refine gr_backi Y (gr_runV (as := [.int (-11 : Int32)]) (rest := []) X G Y (ok_c_refuse hc) cv_RX11_55 clC_0 ⟨Nat.le_of_ble_eq_true rfl, Nat.le_of_ble_eq_true rfl⟩ rfl hl.1 (Nat.le_of_ble_eq_true rfl) (dck_at da_X11_drop 14 rfl)) (fun H locs Y => ?_)
      exact gr_iretO X Y h hr rfl hlk (dck_at da_X11_drop 15 rfl)
  · have h := gI_pos h c
    refine lv_aload_n X.1 X.2.1 (dck_at da_X11_drop 3 rfl) rfl (lv_at hl 0 rfl) ?_
    refine lv_iconst X.1 X.2.1 (dck_at da_X11_drop 4 rfl) ki_m1 ?_
    obtain ⟨r5, s5, hc, h⟩ := gB2_some h
    refine gr_backi Y (gr_runV (as := [.int (-1 : Int32)]) (rest := []) X G Y (ok_c_refuse hc) cv_RX11_55 clC_0 ⟨Nat.le_of_ble_eq_true rfl, Nat.le_of_ble_eq_true rfl⟩ rfl hl.1 (Nat.le_of_ble_eq_true rfl) (dck_at da_X11_drop 5 rfl)) (fun H locs Y => ?_)
    exact gr_iretO X Y h hr rfl hlk (dck_at da_X11_drop 6 rfl)
set_option maxRecDepth 100000 in
set_option maxHeartbeats 4000000 in
theorem ok_c_item {l : Launch} {D : va_G} {cy : Nat → ClassId} {ad sa : Nat → Nat} {A : Nat → Prop} {F : Nat} {a1 : Int32} {a2 : Int32} {a3 : Int32} {a4 : Int64} {s0 : St} {ρ : Int32} {σ' : St} (h : c_item F a1 a2 a3 a4 s0 = some (ρ, σ')) : gMi l shC D cy ad sa A yX11_item cX11_item 7 (some .int) 3 [.ref (ad 0), .int a1, .int a2, .int a3, .long a4] s0 ρ σ' := by
  refine gM_of (by decide) (Nat.le_of_ble_eq_true rfl) ?_
  intro p e s m args below meth c ls X G Y hr hlk hl
  have hl : lv_has ls 7 [(0, .ref (ad 0)), (1, .int a1), (2, .int a2), (3, .int a3), (4, .long a4)] := hl
  have b14 : ∀  (s0 : St) (H : Heap) (locs : List Loc) (ls : Array Slot), c_item_J14 F  s0 = some (ρ, σ') → gY shC D cy ad A s0 s H locs → lv_has ls 7 [(0, .ref (ad 0))] → W p l e (grm 3) s m args below meth c H locs 0 0 (MQ below (va_Qi (fun (q : Int32) (_ : Unit) => q = ρ) (fun _ t => va_P D vwCl (gWl shC cy ad σ') t.heap) A) args s 0 0 A) (F0 m 14 ls []) := by
    intro s0 H locs ls h Y hl
    unfold c_item_J14 at h
    refine lv_aload_n X.1 X.2.1 (dck_at da_X11_item 6 rfl) rfl (lv_at hl 0 rfl) ?_
    refine lv_iconst X.1 X.2.1 (dck_at da_X11_item 7 rfl) ki_m1 ?_
    obtain ⟨r1, s1, hc, h⟩ := gB2_some h
    refine gr_backi Y (gr_runV (as := [.int (-1 : Int32)]) (rest := []) X G Y (ok_c_refuse hc) cv_RX11_55 clC_0 ⟨Nat.le_of_ble_eq_true rfl, Nat.le_of_ble_eq_true rfl⟩ rfl hl.1 (Nat.le_of_ble_eq_true rfl) (dck_at da_X11_item 8 rfl)) (fun H locs Y => ?_)
    exact gr_iretO X Y h hr rfl hlk (dck_at da_X11_item 9 rfl)
  unfold c_item at h
  refine lv_iload_n X.1 X.2.1 (dck_at da_X11_item 0 rfl) rfl (lv_at hl 1 rfl) ?_
  obtain ⟨r2, s2, hc, h⟩ := gB2_some h
  refine gr_backi Y (gr_runS (as := [.int a1]) (rest := []) X G Y (ok_c_Sheets_isSheet hc) cs_RX11_321 ⟨Nat.le_of_ble_eq_true rfl, Nat.le_of_ble_eq_true rfl⟩ rfl hl.1 (Nat.le_of_ble_eq_true rfl) (dck_at da_X11_item 1 rfl)) (fun H locs Y => ?_)
  refine lv_if_eq (tgt := 14) X.1 X.2.1 (dck_at da_X11_item 2 rfl) rfl (fun c => ?_) (fun c => ?_)
  · have h := gI_pos h c
    exact b14 s2 _ _ _ h Y (lv_sub hl [0] rfl)
  · have h := gI_neg h c
    refine lv_iload_n X.1 X.2.1 (dck_at da_X11_item 3 rfl) rfl (lv_at hl 2 rfl) ?_
    obtain ⟨r3, s3, hc, h⟩ := gB2_some h
    refine gr_backi Y (gr_runS (as := [.int a2]) (rest := []) X G Y (ok_c_Sheets_isLane hc) cs_RX11_324 ⟨Nat.le_of_ble_eq_true rfl, Nat.le_of_ble_eq_true rfl⟩ rfl hl.1 (Nat.le_of_ble_eq_true rfl) (dck_at da_X11_item 4 rfl)) (fun H locs Y => ?_)
    refine lv_if_ne (tgt := 20) X.1 X.2.1 (dck_at da_X11_item 5 rfl) rfl (fun c => ?_) (fun c => ?_)
    · have h := gI_neg h c
      refine lv_aload_n X.1 X.2.1 (dck_at da_X11_item 10 rfl) rfl (lv_at hl 0 rfl) ?_
      refine gr_getR X G Y fk_RX11_36 clC_0 rfl (dck_at da_X11_item 11 rfl) ?_
      refine lv_iload_n X.1 X.2.1 (dck_at da_X11_item 12 rfl) rfl (lv_at hl 1 rfl) ?_
      refine lv_iload_n X.1 X.2.1 (dck_at da_X11_item 13 rfl) rfl (lv_at hl 2 rfl) ?_
      refine lv_iload_n X.1 X.2.1 (dck_at da_X11_item 14 rfl) rfl (lv_at hl 3 rfl) ?_
      refine lv_iconst X.1 X.2.1 (dck_at da_X11_item 15 rfl) ki_1 ?_
      obtain ⟨r4, s4, hc, h⟩ := gB2_some h
      refine gr_backi Y (gr_runV (as := [.int a1, .int a2, .int a3, .int (1 : Int32)]) (rest := []) X G Y (ok_c_Sheets_wrong hc) cv_RX11_327 clC_76 ⟨Nat.le_of_ble_eq_true rfl, Nat.le_of_ble_eq_true rfl⟩ rfl hl.1 (Nat.le_of_ble_eq_true rfl) (dck_at da_X11_item 16 rfl)) (fun H locs Y => ?_)
      refine lv_istore (lv' := [(6, .int r4), (0, .ref (ad 0)), (1, .int a1), (2, .int a2), (3, .int a3), (4, .long a4)]) X.1 X.2.1 (dck_at da_X11_item 17 rfl) hl (by decide) rfl (fun ls hl => ?_)
      refine lv_iload X.1 X.2.1 (dck_at da_X11_item 18 rfl) (lv_at hl 0 rfl) ?_
      refine lv_if_ge (tgt := 45) X.1 X.2.1 (dck_at da_X11_item 19 rfl) rfl (fun c => ?_) (fun c => ?_)
      · have h := gI_pos h c
        refine lv_aload_n X.1 X.2.1 (dck_at da_X11_item 24 rfl) rfl (lv_at hl 1 rfl) ?_
        refine gr_getR X G Y fk_RX11_36 clC_0 rfl (dck_at da_X11_item 25 rfl) ?_
        refine lv_iload_n X.1 X.2.1 (dck_at da_X11_item 26 rfl) rfl (lv_at hl 2 rfl) ?_
        refine lv_iload_n X.1 X.2.1 (dck_at da_X11_item 27 rfl) rfl (lv_at hl 4 rfl) ?_
        refine lv_lload X.1 X.2.1 (dck_at da_X11_item 28 rfl) (lv_at hl 5 rfl) ?_
        obtain ⟨s5, hc, h⟩ := gB_some h
        refine gr_backv Y (gr_runV (as := [.int a1, .int a3, .long a4]) (rest := []) X G Y (ok_c_Sheets_put hc) cv_RX11_337 clC_76 ⟨Nat.le_of_ble_eq_true rfl, Nat.le_of_ble_eq_true rfl⟩ rfl hl.1 (Nat.le_of_ble_eq_true rfl) (dck_at da_X11_item 29 rfl)) (fun H locs Y => ?_)
        refine lv_iconst X.1 X.2.1 (dck_at da_X11_item 30 rfl) ki_1 ?_
        exact gr_iretO X Y h hr rfl hlk (dck_at da_X11_item 31 rfl)
      · have h := gI_neg h c
        refine lv_aload_n X.1 X.2.1 (dck_at da_X11_item 20 rfl) rfl (lv_at hl 1 rfl) ?_
        refine lv_iload X.1 X.2.1 (dck_at da_X11_item 21 rfl) (lv_at hl 0 rfl) ?_
        obtain ⟨r6, s6, hc, h⟩ := gB2_some h
        refine gr_backi Y (gr_runV (as := [.int r4]) (rest := []) X G Y (ok_c_refuse hc) cv_RX11_55 clC_0 ⟨Nat.le_of_ble_eq_true rfl, Nat.le_of_ble_eq_true rfl⟩ rfl hl.1 (Nat.le_of_ble_eq_true rfl) (dck_at da_X11_item 22 rfl)) (fun H locs Y => ?_)
        exact gr_iretO X Y h hr rfl hlk (dck_at da_X11_item 23 rfl)
    · have h := gI_pos h c
      exact b14 s3 _ _ _ h Y (lv_sub hl [0] rfl)
set_option maxRecDepth 100000 in
set_option maxHeartbeats 4000000 in
theorem ok_c_Sheets_areAlike {l : Launch} {D : va_G} {cy : Nat → ClassId} {ad sa : Nat → Nat} {A : Nat → Prop} {F : Nat} {a1 : Int32} {a2 : Int32} {s0 : St} {ρ : Int32} {σ' : St} (h : c_Sheets_areAlike F a1 a2 s0 = some (ρ, σ')) : gMi l shC D cy ad sa A yX7_areAlike cX7_areAlike 3 (some .boolean) 1 [.ref (ad 76), .int a1, .int a2] s0 ρ σ' := by
  refine gM_of (by decide) (Nat.le_of_ble_eq_true rfl) ?_
  intro p e s m args below meth c ls X G Y hr hlk hl
  have hl : lv_has ls 3 [(0, .ref (ad 76)), (1, .int a1), (2, .int a2)] := hl
  unfold c_Sheets_areAlike at h
  refine lv_aload_n X.1 X.2.1 (dck_at da_X7_areAlike 0 rfl) rfl (lv_at hl 0 rfl) ?_
  refine gr_getR X G Y fk_RX7_15 clC_76 rfl (dck_at da_X7_areAlike 1 rfl) ?_
  refine lv_iload_n X.1 X.2.1 (dck_at da_X7_areAlike 2 rfl) rfl (lv_at hl 1 rfl) ?_
  obtain ⟨hin, h⟩ := gI_if h
  refine gr_iald X G Y clC_78 hin (dck_at da_X7_areAlike 3 rfl) ?_
  refine lv_aload_n X.1 X.2.1 (dck_at da_X7_areAlike 4 rfl) rfl (lv_at hl 0 rfl) ?_
  refine gr_getR X G Y fk_RX7_15 clC_76 rfl (dck_at da_X7_areAlike 5 rfl) ?_
  refine lv_iload_n X.1 X.2.1 (dck_at da_X7_areAlike 6 rfl) rfl (lv_at hl 2 rfl) ?_
  obtain ⟨hin, h⟩ := gI_if h
  refine gr_iald X G Y clC_78 hin (dck_at da_X7_areAlike 7 rfl) ?_
  refine lv_icmp_ne (tgt := 19) X.1 X.2.1 (dck_at da_X7_areAlike 8 rfl) rfl (fun c => ?_) (fun c => ?_)
  · have h := gI_neg h c
    refine lv_iconst X.1 X.2.1 (dck_at da_X7_areAlike 11 rfl) ki_0 ?_
    exact gr_iretO X Y h hr rfl hlk (dck_at da_X7_areAlike 12 rfl)
  · have h := gI_pos h c
    refine lv_iconst X.1 X.2.1 (dck_at da_X7_areAlike 9 rfl) ki_1 ?_
    refine lv_goto (tgt := 20) X.1 X.2.1 (dck_at da_X7_areAlike 10 rfl) rfl ?_
    exact gr_iretO X Y h hr rfl hlk (dck_at da_X7_areAlike 12 rfl)
set_option maxRecDepth 100000 in
set_option maxHeartbeats 4000000 in
theorem ok_c_Sheets_move {l : Launch} {D : va_G} {cy : Nat → ClassId} {ad sa : Nat → Nat} {A : Nat → Prop} {F : Nat} {a1 : Int32} {a2 : Int32} {a3 : Int32} {a4 : Int32} {a5 : Int32} {s0 : St} {σ' : St} (h : c_Sheets_move F a1 a2 a3 a4 a5 s0 = some σ') : gMv l shC D cy ad sa A yX7_move cX7_move 6 none 1 [.ref (ad 76), .int a1, .int a2, .int a3, .int a4, .int a5] s0 σ' := by
  refine gM_of (by decide) (Nat.le_of_ble_eq_true rfl) ?_
  intro p e s m args below meth c ls X G Y hr hlk hl
  have hl : lv_has ls 6 [(0, .ref (ad 76)), (1, .int a1), (2, .int a2), (3, .int a3), (4, .int a4), (5, .int a5)] := hl
  unfold c_Sheets_move at h
  refine lv_aload_n X.1 X.2.1 (dck_at da_X7_move 0 rfl) rfl (lv_at hl 0 rfl) ?_
  refine gr_getR X G Y fk_RX7_11 clC_76 rfl (dck_at da_X7_move 1 rfl) ?_
  refine lv_iload_n X.1 X.2.1 (dck_at da_X7_move 2 rfl) rfl (lv_at hl 1 rfl) ?_
  refine lv_bipush X.1 X.2.1 (dck_at da_X7_move 3 rfl) kb_24 ?_
  refine lv_imul X.1 X.2.1 (dck_at da_X7_move 4 rfl) ?_
  refine lv_iload_n X.1 X.2.1 (dck_at da_X7_move 5 rfl) rfl (lv_at hl 2 rfl) ?_
  refine lv_iadd X.1 X.2.1 (dck_at da_X7_move 6 rfl) ?_
  refine lv_aload_n X.1 X.2.1 (dck_at da_X7_move 7 rfl) rfl (lv_at hl 0 rfl) ?_
  refine gr_getR X G Y fk_RX7_11 clC_76 rfl (dck_at da_X7_move 8 rfl) ?_
  refine lv_iload_n X.1 X.2.1 (dck_at da_X7_move 9 rfl) rfl (lv_at hl 3 rfl) ?_
  refine lv_bipush X.1 X.2.1 (dck_at da_X7_move 10 rfl) kb_24 ?_
  refine lv_imul X.1 X.2.1 (dck_at da_X7_move 11 rfl) ?_
  refine lv_iload X.1 X.2.1 (dck_at da_X7_move 12 rfl) (lv_at hl 4 rfl) ?_
  refine lv_iadd X.1 X.2.1 (dck_at da_X7_move 13 rfl) ?_
  refine lv_iload X.1 X.2.1 (dck_at da_X7_move 14 rfl) (lv_at hl 5 rfl) ?_
  obtain ⟨hin, h⟩ := gI_if h
  refine gr_cpJ X G Y hl.1 wm_1142 ⟨wm_652, wm_651, wm_67⟩ clC_77 clC_77 hin ⟨Nat.le_of_ble_eq_true rfl, by decide +kernel⟩ (dck_at da_X7_move 15 rfl) (fun H locs Y => ?_)
  exact gr_vretO X Y h hr hlk (dck_at da_X7_move 16 rfl)
set_option maxRecDepth 100000 in
set_option maxHeartbeats 4000000 in
theorem ok_c_copy {l : Launch} {D : va_G} {cy : Nat → ClassId} {ad sa : Nat → Nat} {A : Nat → Prop} {F : Nat} {a1 : Int32} {a2 : Int32} {a3 : Int32} {a4 : Int32} {a5 : Int32} {s0 : St} {ρ : Int32} {σ' : St} (h : c_copy F a1 a2 a3 a4 a5 s0 = some (ρ, σ')) : gMi l shC D cy ad sa A yX11_copy cX11_copy 6 (some .int) 3 [.ref (ad 0), .int a1, .int a2, .int a3, .int a4, .int a5] s0 ρ σ' := by
  refine gM_of (by decide) (Nat.le_of_ble_eq_true rfl) ?_
  intro p e s m args below meth c ls X G Y hr hlk hl
  have hl : lv_has ls 6 [(0, .ref (ad 0)), (1, .int a1), (2, .int a2), (3, .int a3), (4, .int a4), (5, .int a5)] := hl
  have b14 : ∀  (s0 : St) (H : Heap) (locs : List Loc) (ls : Array Slot), c_copy_J14 F  s0 = some (ρ, σ') → gY shC D cy ad A s0 s H locs → lv_has ls 6 [(0, .ref (ad 0))] → W p l e (grm 3) s m args below meth c H locs 0 0 (MQ below (va_Qi (fun (q : Int32) (_ : Unit) => q = ρ) (fun _ t => va_P D vwCl (gWl shC cy ad σ') t.heap) A) args s 0 0 A) (F0 m 14 ls []) := by
    intro s0 H locs ls h Y hl
    unfold c_copy_J14 at h
    refine lv_aload_n X.1 X.2.1 (dck_at da_X11_copy 6 rfl) rfl (lv_at hl 0 rfl) ?_
    refine lv_iconst X.1 X.2.1 (dck_at da_X11_copy 7 rfl) ki_m1 ?_
    obtain ⟨r1, s1, hc, h⟩ := gB2_some h
    refine gr_backi Y (gr_runV (as := [.int (-1 : Int32)]) (rest := []) X G Y (ok_c_refuse hc) cv_RX11_55 clC_0 ⟨Nat.le_of_ble_eq_true rfl, Nat.le_of_ble_eq_true rfl⟩ rfl hl.1 (Nat.le_of_ble_eq_true rfl) (dck_at da_X11_copy 8 rfl)) (fun H locs Y => ?_)
    exact gr_iretO X Y h hr rfl hlk (dck_at da_X11_copy 9 rfl)
  have b42 : ∀  (s0 : St) (H : Heap) (locs : List Loc) (ls : Array Slot), c_copy_J42 F  s0 = some (ρ, σ') → gY shC D cy ad A s0 s H locs → lv_has ls 6 [(0, .ref (ad 0))] → W p l e (grm 3) s m args below meth c H locs 0 0 (MQ below (va_Qi (fun (q : Int32) (_ : Unit) => q = ρ) (fun _ t => va_P D vwCl (gWl shC cy ad σ') t.heap) A) args s 0 0 A) (F0 m 42 ls []) := by
    intro s0 H locs ls h Y hl
    unfold c_copy_J42 at h
    refine lv_aload_n X.1 X.2.1 (dck_at da_X11_copy 20 rfl) rfl (lv_at hl 0 rfl) ?_
    refine lv_bipush X.1 X.2.1 (dck_at da_X11_copy 21 rfl) kb_m11 ?_
    obtain ⟨r2, s2, hc, h⟩ := gB2_some h
    refine gr_backi Y (gr_runV (as := [.int (-11 : Int32)]) (rest := []) X G Y (ok_c_refuse hc) cv_RX11_55 clC_0 ⟨Nat.le_of_ble_eq_true rfl, Nat.le_of_ble_eq_true rfl⟩ rfl hl.1 (Nat.le_of_ble_eq_true rfl) (dck_at da_X11_copy 22 rfl)) (fun H locs Y => ?_)
    exact gr_iretO X Y h hr rfl hlk (dck_at da_X11_copy 23 rfl)
  have b97 : ∀  (s0 : St) (H : Heap) (locs : List Loc) (ls : Array Slot), c_copy_J97 F  s0 = some (ρ, σ') → gY shC D cy ad A s0 s H locs → lv_has ls 6 [(0, .ref (ad 0))] → W p l e (grm 3) s m args below meth c H locs 0 0 (MQ below (va_Qi (fun (q : Int32) (_ : Unit) => q = ρ) (fun _ t => va_P D vwCl (gWl shC cy ad σ') t.heap) A) args s 0 0 A) (F0 m 97 ls []) := by
    intro s0 H locs ls h Y hl
    unfold c_copy_J97 at h
    refine lv_aload_n X.1 X.2.1 (dck_at da_X11_copy 48 rfl) rfl (lv_at hl 0 rfl) ?_
    refine lv_bipush X.1 X.2.1 (dck_at da_X11_copy 49 rfl) kb_m13 ?_
    obtain ⟨r3, s3, hc, h⟩ := gB2_some h
    refine gr_backi Y (gr_runV (as := [.int (-13 : Int32)]) (rest := []) X G Y (ok_c_refuse hc) cv_RX11_55 clC_0 ⟨Nat.le_of_ble_eq_true rfl, Nat.le_of_ble_eq_true rfl⟩ rfl hl.1 (Nat.le_of_ble_eq_true rfl) (dck_at da_X11_copy 50 rfl)) (fun H locs Y => ?_)
    exact gr_iretO X Y h hr rfl hlk (dck_at da_X11_copy 51 rfl)
  unfold c_copy at h
  refine lv_iload_n X.1 X.2.1 (dck_at da_X11_copy 0 rfl) rfl (lv_at hl 1 rfl) ?_
  obtain ⟨r4, s4, hc, h⟩ := gB2_some h
  refine gr_backi Y (gr_runS (as := [.int a1]) (rest := []) X G Y (ok_c_Sheets_isSheet hc) cs_RX11_321 ⟨Nat.le_of_ble_eq_true rfl, Nat.le_of_ble_eq_true rfl⟩ rfl hl.1 (Nat.le_of_ble_eq_true rfl) (dck_at da_X11_copy 1 rfl)) (fun H locs Y => ?_)
  refine lv_if_eq (tgt := 14) X.1 X.2.1 (dck_at da_X11_copy 2 rfl) rfl (fun c => ?_) (fun c => ?_)
  · have h := gI_pos h c
    exact b14 s4 _ _ _ h Y (lv_sub hl [0] rfl)
  · have h := gI_neg h c
    refine lv_iload_n X.1 X.2.1 (dck_at da_X11_copy 3 rfl) rfl (lv_at hl 3 rfl) ?_
    obtain ⟨r5, s5, hc, h⟩ := gB2_some h
    refine gr_backi Y (gr_runS (as := [.int a3]) (rest := []) X G Y (ok_c_Sheets_isSheet hc) cs_RX11_321 ⟨Nat.le_of_ble_eq_true rfl, Nat.le_of_ble_eq_true rfl⟩ rfl hl.1 (Nat.le_of_ble_eq_true rfl) (dck_at da_X11_copy 4 rfl)) (fun H locs Y => ?_)
    refine lv_if_ne (tgt := 20) X.1 X.2.1 (dck_at da_X11_copy 5 rfl) rfl (fun c => ?_) (fun c => ?_)
    · have h := gI_neg h c
      refine lv_aload_n X.1 X.2.1 (dck_at da_X11_copy 10 rfl) rfl (lv_at hl 0 rfl) ?_
      refine gr_getR X G Y fk_RX11_36 clC_0 rfl (dck_at da_X11_copy 11 rfl) ?_
      refine lv_iload_n X.1 X.2.1 (dck_at da_X11_copy 12 rfl) rfl (lv_at hl 1 rfl) ?_
      obtain ⟨r6, s6, hc, h⟩ := gB2_some h
      refine gr_backi Y (gr_runV (as := [.int a1]) (rest := []) X G Y (ok_c_Sheets_isThere hc) cv_RX11_344 clC_76 ⟨Nat.le_of_ble_eq_true rfl, Nat.le_of_ble_eq_true rfl⟩ rfl hl.1 (Nat.le_of_ble_eq_true rfl) (dck_at da_X11_copy 13 rfl)) (fun H locs Y => ?_)
      refine lv_if_eq (tgt := 42) X.1 X.2.1 (dck_at da_X11_copy 14 rfl) rfl (fun c => ?_) (fun c => ?_)
      · have h := gI_pos h c
        exact b42 s6 _ _ _ h Y (lv_sub hl [0] rfl)
      · have h := gI_neg h c
        refine lv_aload_n X.1 X.2.1 (dck_at da_X11_copy 15 rfl) rfl (lv_at hl 0 rfl) ?_
        refine gr_getR X G Y fk_RX11_36 clC_0 rfl (dck_at da_X11_copy 16 rfl) ?_
        refine lv_iload_n X.1 X.2.1 (dck_at da_X11_copy 17 rfl) rfl (lv_at hl 3 rfl) ?_
        obtain ⟨r7, s7, hc, h⟩ := gB2_some h
        refine gr_backi Y (gr_runV (as := [.int a3]) (rest := []) X G Y (ok_c_Sheets_isThere hc) cv_RX11_344 clC_76 ⟨Nat.le_of_ble_eq_true rfl, Nat.le_of_ble_eq_true rfl⟩ rfl hl.1 (Nat.le_of_ble_eq_true rfl) (dck_at da_X11_copy 18 rfl)) (fun H locs Y => ?_)
        refine lv_if_ne (tgt := 49) X.1 X.2.1 (dck_at da_X11_copy 19 rfl) rfl (fun c => ?_) (fun c => ?_)
        · have h := gI_neg h c
          refine lv_aload_n X.1 X.2.1 (dck_at da_X11_copy 24 rfl) rfl (lv_at hl 0 rfl) ?_
          refine gr_getR X G Y fk_RX11_36 clC_0 rfl (dck_at da_X11_copy 25 rfl) ?_
          refine lv_iload_n X.1 X.2.1 (dck_at da_X11_copy 26 rfl) rfl (lv_at hl 1 rfl) ?_
          refine lv_iload_n X.1 X.2.1 (dck_at da_X11_copy 27 rfl) rfl (lv_at hl 3 rfl) ?_
          obtain ⟨r8, s8, hc, h⟩ := gB2_some h
          refine gr_backi Y (gr_runV (as := [.int a1, .int a3]) (rest := []) X G Y (ok_c_Sheets_areAlike hc) cv_RX11_349 clC_76 ⟨Nat.le_of_ble_eq_true rfl, Nat.le_of_ble_eq_true rfl⟩ rfl hl.1 (Nat.le_of_ble_eq_true rfl) (dck_at da_X11_copy 28 rfl)) (fun H locs Y => ?_)
          refine lv_if_ne (tgt := 68) X.1 X.2.1 (dck_at da_X11_copy 29 rfl) rfl (fun c => ?_) (fun c => ?_)
          · have h := gI_neg h c
            refine lv_aload_n X.1 X.2.1 (dck_at da_X11_copy 34 rfl) rfl (lv_at hl 0 rfl) ?_
            refine gr_getR X G Y fk_RX11_36 clC_0 rfl (dck_at da_X11_copy 35 rfl) ?_
            refine lv_iload_n X.1 X.2.1 (dck_at da_X11_copy 36 rfl) rfl (lv_at hl 1 rfl) ?_
            refine lv_iload_n X.1 X.2.1 (dck_at da_X11_copy 37 rfl) rfl (lv_at hl 2 rfl) ?_
            refine lv_iload X.1 X.2.1 (dck_at da_X11_copy 38 rfl) (lv_at hl 5 rfl) ?_
            obtain ⟨r9, s9, hc, h⟩ := gB2_some h
            refine gr_backi Y (gr_runV (as := [.int a1, .int a2, .int a5]) (rest := []) X G Y (ok_c_Sheets_holds hc) cv_RX11_352 clC_76 ⟨Nat.le_of_ble_eq_true rfl, Nat.le_of_ble_eq_true rfl⟩ rfl hl.1 (Nat.le_of_ble_eq_true rfl) (dck_at da_X11_copy 39 rfl)) (fun H locs Y => ?_)
            refine lv_if_eq (tgt := 97) X.1 X.2.1 (dck_at da_X11_copy 40 rfl) rfl (fun c => ?_) (fun c => ?_)
            · have h := gI_pos h c
              exact b97 s9 _ _ _ h Y (lv_sub hl [0] rfl)
            · have h := gI_neg h c
              refine lv_aload_n X.1 X.2.1 (dck_at da_X11_copy 41 rfl) rfl (lv_at hl 0 rfl) ?_
              refine gr_getR X G Y fk_RX11_36 clC_0 rfl (dck_at da_X11_copy 42 rfl) ?_
              refine lv_iload_n X.1 X.2.1 (dck_at da_X11_copy 43 rfl) rfl (lv_at hl 3 rfl) ?_
              refine lv_iload X.1 X.2.1 (dck_at da_X11_copy 44 rfl) (lv_at hl 4 rfl) ?_
              refine lv_iload X.1 X.2.1 (dck_at da_X11_copy 45 rfl) (lv_at hl 5 rfl) ?_
              obtain ⟨r10, s10, hc, h⟩ := gB2_some h
              refine gr_backi Y (gr_runV (as := [.int a3, .int a4, .int a5]) (rest := []) X G Y (ok_c_Sheets_holds hc) cv_RX11_352 clC_76 ⟨Nat.le_of_ble_eq_true rfl, Nat.le_of_ble_eq_true rfl⟩ rfl hl.1 (Nat.le_of_ble_eq_true rfl) (dck_at da_X11_copy 46 rfl)) (fun H locs Y => ?_)
              refine lv_if_ne (tgt := 104) X.1 X.2.1 (dck_at da_X11_copy 47 rfl) rfl (fun c => ?_) (fun c => ?_)
              · have h := gI_neg h c
                refine lv_aload_n X.1 X.2.1 (dck_at da_X11_copy 52 rfl) rfl (lv_at hl 0 rfl) ?_
                refine gr_getR X G Y fk_RX11_36 clC_0 rfl (dck_at da_X11_copy 53 rfl) ?_
                refine lv_iload_n X.1 X.2.1 (dck_at da_X11_copy 54 rfl) rfl (lv_at hl 1 rfl) ?_
                refine lv_iload_n X.1 X.2.1 (dck_at da_X11_copy 55 rfl) rfl (lv_at hl 2 rfl) ?_
                refine lv_iload_n X.1 X.2.1 (dck_at da_X11_copy 56 rfl) rfl (lv_at hl 3 rfl) ?_
                refine lv_iload X.1 X.2.1 (dck_at da_X11_copy 57 rfl) (lv_at hl 4 rfl) ?_
                refine lv_iload X.1 X.2.1 (dck_at da_X11_copy 58 rfl) (lv_at hl 5 rfl) ?_
                obtain ⟨s11, hc, h⟩ := gB_some h
                refine gr_backv Y (gr_runV (as := [.int a1, .int a2, .int a3, .int a4, .int a5]) (rest := []) X G Y (ok_c_Sheets_move hc) cv_RX11_355 clC_76 ⟨Nat.le_of_ble_eq_true rfl, Nat.le_of_ble_eq_true rfl⟩ rfl hl.1 (Nat.le_of_ble_eq_true rfl) (dck_at da_X11_copy 59 rfl)) (fun H locs Y => ?_)
                refine lv_iload X.1 X.2.1 (dck_at da_X11_copy 60 rfl) (lv_at hl 5 rfl) ?_
                exact gr_iretO X Y h hr rfl hlk (dck_at da_X11_copy 61 rfl)
              · have h := gI_pos h c
                exact b97 s10 _ _ _ h Y (lv_sub hl [0] rfl)
          · have h := gI_pos h c
            refine lv_aload_n X.1 X.2.1 (dck_at da_X11_copy 30 rfl) rfl (lv_at hl 0 rfl) ?_
            refine lv_bipush X.1 X.2.1 (dck_at da_X11_copy 31 rfl) kb_m12 ?_
            obtain ⟨r12, s12, hc, h⟩ := gB2_some h
            refine gr_backi Y (gr_runV (as := [.int (-12 : Int32)]) (rest := []) X G Y (ok_c_refuse hc) cv_RX11_55 clC_0 ⟨Nat.le_of_ble_eq_true rfl, Nat.le_of_ble_eq_true rfl⟩ rfl hl.1 (Nat.le_of_ble_eq_true rfl) (dck_at da_X11_copy 32 rfl)) (fun H locs Y => ?_)
            exact gr_iretO X Y h hr rfl hlk (dck_at da_X11_copy 33 rfl)
        · have h := gI_pos h c
          exact b42 s7 _ _ _ h Y (lv_sub hl [0] rfl)
    · have h := gI_pos h c
      exact b14 s5 _ _ _ h Y (lv_sub hl [0] rfl)
set_option maxRecDepth 100000 in
set_option maxHeartbeats 4000000 in
theorem ok_m_in {l : Launch} {D : va_G} {cy : Nat → ClassId} {ad sa : Nat → Nat} {A : Nat → Prop} {F : Nat} {a0 : Int64} {a2 : Int64} {a4 : Int64} {s0 : St} {ρ : Int32} {σ' : St} (h : m_in F a0 a2 a4 s0 = some (ρ, σ')) : gMi l shM D cy ad sa A yX12_in cX12_in 6 (some .boolean) 1 [.long a0, .long a2, .long a4] s0 ρ σ' := by
  refine gM_of (by decide) (Nat.le_of_ble_eq_true rfl) ?_
  intro p e s m args below meth c ls X G Y hr hlk hl
  have hl : lv_has ls 6 [(0, .long a0), (2, .long a2), (4, .long a4)] := hl
  have b17 : ∀  (s0 : St) (H : Heap) (locs : List Loc) (ls : Array Slot), m_in_J17 F  s0 = some (ρ, σ') → gY shM D cy ad A s0 s H locs → lv_has ls 6 [] → W p l e (grm 1) s m args below meth c H locs 0 0 (MQ below (va_Qi (fun (q : Int32) (_ : Unit) => q = ρ) (fun _ t => va_P D vwCl (gWl shM cy ad σ') t.heap) A) args s 0 0 A) (F0 m 17 ls []) := by
    intro s0 H locs ls h Y hl
    unfold m_in_J17 at h
    refine lv_iconst X.1 X.2.1 (dck_at da_X12_in 10 rfl) ki_0 ?_
    exact gr_iretO X Y h hr rfl hlk (dck_at da_X12_in 11 rfl)
  unfold m_in at h
  refine lv_lload_n X.1 X.2.1 (dck_at da_X12_in 0 rfl) rfl (lv_at hl 0 rfl) ?_
  refine lv_lload_n X.1 X.2.1 (dck_at da_X12_in 1 rfl) rfl (lv_at hl 1 rfl) ?_
  refine W.lcmp X.1 X.2.1 (dck_at da_X12_in 2 rfl) ?_
  refine lv_if_lt (tgt := 17) X.1 X.2.1 (dck_at da_X12_in 3 rfl) rfl (fun c => ?_) (fun c => ?_)
  · have h := gI_pos h c
    exact b17 s0 _ _ _ h Y (lv_sub hl [] rfl)
  · have h := gI_neg h c
    refine lv_lload_n X.1 X.2.1 (dck_at da_X12_in 4 rfl) rfl (lv_at hl 0 rfl) ?_
    refine lv_lload X.1 X.2.1 (dck_at da_X12_in 5 rfl) (lv_at hl 2 rfl) ?_
    refine W.lcmp X.1 X.2.1 (dck_at da_X12_in 6 rfl) ?_
    refine lv_if_gt (tgt := 17) X.1 X.2.1 (dck_at da_X12_in 7 rfl) rfl (fun c => ?_) (fun c => ?_)
    · have h := gI_pos h c
      exact b17 s0 _ _ _ h Y (lv_sub hl [] rfl)
    · have h := gI_neg h c
      refine lv_iconst X.1 X.2.1 (dck_at da_X12_in 8 rfl) ki_1 ?_
      refine lv_goto (tgt := 18) X.1 X.2.1 (dck_at da_X12_in 9 rfl) rfl ?_
      exact gr_iretO X Y h hr rfl hlk (dck_at da_X12_in 11 rfl)
set_option maxRecDepth 100000 in
set_option maxHeartbeats 4000000 in
theorem ok_m_says {l : Launch} {D : va_G} {cy : Nat → ClassId} {ad sa : Nat → Nat} {A : Nat → Prop} {F : Nat} {a1 : Int64} {s0 : St} {ρ : Int64} {σ' : St} (h : m_says F a1 s0 = some (ρ, σ')) : gMl l shM D cy ad sa A yX12_says cX12_says 4 (some .long) 1 [.ref (ad 0), .long a1] s0 ρ σ' := by
  refine gM_of (by decide) (Nat.le_of_ble_eq_true rfl) ?_
  intro p e s m args below meth c ls X G Y hr hlk hl
  have hl : lv_has ls 4 [(0, .ref (ad 0)), (1, .long a1)] := hl
  have b66 : ∀ (x1 : Int64) (y1 : Int32) (y2 : Int32) (y3 : Int32) (s0 : St) (H : Heap) (locs : List Loc) (ls : Array Slot), m_says_J66 F  x1 y1 y2 y3 s0 = some (ρ, σ') → gY shM D cy ad A s0 s H locs → lv_has ls 4 [(1, .long x1)] → W p l e (grm 1) s m args below meth c H locs 0 0 (MQ below (va_Ql (fun (q : Int64) (_ : Unit) => q = ρ) (fun _ t => va_P D vwCl (gWl shM cy ad σ') t.heap) A) args s 0 0 A) (F0 m 66 ls [.int y3, .int y2, .int y1, .ref (ad 1)]) := by
    intro x1 y1 y2 y3 s0 H locs ls h Y hl
    unfold m_says_J66 at h
    refine lv_iadd X.1 X.2.1 (dck_at da_X12_says 38 rfl) ?_
    obtain ⟨hin, h⟩ := gI_if h
    refine gr_iast X G Y clM_1 hin (dck_at da_X12_says 39 rfl) (fun H locs Y => ?_)
    refine lv_lload_n X.1 X.2.1 (dck_at da_X12_says 40 rfl) rfl (lv_at hl 0 rfl) ?_
    exact gr_lretO X Y h hr hlk (dck_at da_X12_says 41 rfl)
  have b42 : ∀ (x1 : Int64) (y0 : Int32) (s0 : St) (H : Heap) (locs : List Loc) (ls : Array Slot), m_says_J42 F  x1 y0 s0 = some (ρ, σ') → gY shM D cy ad A s0 s H locs → lv_has ls 4 [(0, .ref (ad 0)), (1, .long x1)] → W p l e (grm 1) s m args below meth c H locs 0 0 (MQ below (va_Ql (fun (q : Int64) (_ : Unit) => q = ρ) (fun _ t => va_P D vwCl (gWl shM cy ad σ') t.heap) A) args s 0 0 A) (F0 m 42 ls [.int y0]) := by
    intro x1 y0 s0 H locs ls h Y hl
    unfold m_says_J42 at h
    refine lv_istore_n (lv' := [(3, .int y0), (0, .ref (ad 0)), (1, .long x1)]) X.1 X.2.1 (dck_at da_X12_says 23 rfl) rfl hl (by decide) rfl (fun ls hl => ?_)
    refine lv_aload_n X.1 X.2.1 (dck_at da_X12_says 24 rfl) rfl (lv_at hl 1 rfl) ?_
    refine gr_getR X G Y fk_RX12_7 clM_0 rfl (dck_at da_X12_says 25 rfl) ?_
    refine lv_iload_n X.1 X.2.1 (dck_at da_X12_says 26 rfl) rfl (lv_at hl 0 rfl) ?_
    refine lv_dup2_11 X.1 X.2.1 (dck_at da_X12_says 27 rfl) rfl rfl ?_
    obtain ⟨hin, h⟩ := gI_if h
    refine gr_iald X G Y clM_1 hin (dck_at da_X12_says 28 rfl) ?_
    refine lv_aload_n X.1 X.2.1 (dck_at da_X12_says 29 rfl) rfl (lv_at hl 1 rfl) ?_
    refine gr_getR X G Y fk_RX12_7 clM_0 rfl (dck_at da_X12_says 30 rfl) ?_
    refine lv_iload_n X.1 X.2.1 (dck_at da_X12_says 31 rfl) rfl (lv_at hl 0 rfl) ?_
    obtain ⟨hin, h⟩ := gI_if h
    refine gr_iald X G Y clM_1 hin (dck_at da_X12_says 32 rfl) ?_
    refine lv_ldc X.1 X.2.1 X.2.2.2.1 (X.2.2.2.2 _ wm_1296) (dck_at da_X12_says 33 rfl) ?_
    refine lv_icmp_ge (tgt := 65) X.1 X.2.1 (dck_at da_X12_says 34 rfl) rfl (fun c => ?_) (fun c => ?_)
    · have h := gI_pos h c
      refine lv_iconst X.1 X.2.1 (dck_at da_X12_says 37 rfl) ki_0 ?_
      exact b66 x1 y0 (s0.1 1 (y0).toNatClampNeg) (0 : Int32) s0 _ _ _ h Y (lv_sub hl [2] rfl)
    · have h := gI_neg h c
      refine lv_iconst X.1 X.2.1 (dck_at da_X12_says 35 rfl) ki_1 ?_
      refine lv_goto (tgt := 66) X.1 X.2.1 (dck_at da_X12_says 36 rfl) rfl ?_
      exact b66 x1 y0 (s0.1 1 (y0).toNatClampNeg) (1 : Int32) s0 _ _ _ h Y (lv_sub hl [2] rfl)
  unfold m_says at h
  refine lv_lload_n X.1 X.2.1 (dck_at da_X12_says 0 rfl) rfl (lv_at hl 1 rfl) ?_
  refine lv_lconst (v := 0) X.1 X.2.1 (dck_at da_X12_says 1 rfl) rfl ?_
  refine W.lcmp X.1 X.2.1 (dck_at da_X12_says 2 rfl) ?_
  refine lv_if_ge (tgt := 68) X.1 X.2.1 (dck_at da_X12_says 3 rfl) rfl (fun c => ?_) (fun c => ?_)
  · have h := gI_pos h c
    refine lv_lload_n X.1 X.2.1 (dck_at da_X12_says 40 rfl) rfl (lv_at hl 1 rfl) ?_
    exact gr_lretO X Y h hr hlk (dck_at da_X12_says 41 rfl)
  · have h := gI_neg h c
    refine lv_lload_n X.1 X.2.1 (dck_at da_X12_says 4 rfl) rfl (lv_at hl 1 rfl) ?_
    refine lv_ldc2 X.1 X.2.1 X.2.2.2.1 (X.2.2.2.2 _ wm_1292) (dck_at da_X12_says 5 rfl) ?_
    refine W.lcmp X.1 X.2.1 (dck_at da_X12_says 6 rfl) ?_
    refine lv_if_gt (tgt := 19) X.1 X.2.1 (dck_at da_X12_says 7 rfl) rfl (fun c => ?_) (fun c => ?_)
    · have h := gI_pos h c
      refine lv_lload_n X.1 X.2.1 (dck_at da_X12_says 10 rfl) rfl (lv_at hl 1 rfl) ?_
      refine lv_ldc2 X.1 X.2.1 X.2.2.2.1 (X.2.2.2.2 _ wm_1293) (dck_at da_X12_says 11 rfl) ?_
      refine W.lcmp X.1 X.2.1 (dck_at da_X12_says 12 rfl) ?_
      refine lv_if_gt (tgt := 36) X.1 X.2.1 (dck_at da_X12_says 13 rfl) rfl (fun c => ?_) (fun c => ?_)
      · have h := gI_pos h c
        refine lv_ldc2 X.1 X.2.1 X.2.2.2.1 (X.2.2.2.2 _ wm_1295) (dck_at da_X12_says 19 rfl) ?_
        refine lv_lload_n X.1 X.2.1 (dck_at da_X12_says 20 rfl) rfl (lv_at hl 1 rfl) ?_
        refine lv_lsub X.1 X.2.1 (dck_at da_X12_says 21 rfl) ?_
        refine lv_l2i (v := ((-1 : Int64) - a1).toInt32) X.1 X.2.1 (dck_at da_X12_says 22 rfl) rfl ?_
        exact b42 a1 (((-1 : Int64) - a1).toInt32) s0 _ _ _ h Y (lv_sub hl [0, 1] rfl)
      · have h := gI_neg h c
        refine lv_ldc2 X.1 X.2.1 X.2.2.2.1 (X.2.2.2.2 _ wm_1294) (dck_at da_X12_says 14 rfl) ?_
        refine lv_lload_n X.1 X.2.1 (dck_at da_X12_says 15 rfl) rfl (lv_at hl 1 rfl) ?_
        refine lv_lsub X.1 X.2.1 (dck_at da_X12_says 16 rfl) ?_
        refine lv_l2i (v := ((-7 : Int64) - a1).toInt32) X.1 X.2.1 (dck_at da_X12_says 17 rfl) rfl ?_
        refine lv_goto (tgt := 42) X.1 X.2.1 (dck_at da_X12_says 18 rfl) rfl ?_
        exact b42 a1 (((-7 : Int64) - a1).toInt32) s0 _ _ _ h Y (lv_sub hl [0, 1] rfl)
    · have h := gI_neg h c
      refine lv_bipush X.1 X.2.1 (dck_at da_X12_says 8 rfl) kb_8 ?_
      refine lv_goto (tgt := 42) X.1 X.2.1 (dck_at da_X12_says 9 rfl) rfl ?_
      exact b42 a1 (8 : Int32) s0 _ _ _ h Y (lv_sub hl [0, 1] rfl)
set_option maxRecDepth 100000 in
set_option maxHeartbeats 4000000 in
theorem ok_m_tells {l : Launch} {D : va_G} {cy : Nat → ClassId} {ad sa : Nat → Nat} {A : Nat → Prop} {F : Nat} {a1 : Int32} {s0 : St} {ρ : Int32} {σ' : St} (h : m_tells F a1 s0 = some (ρ, σ')) : gMi l shM D cy ad sa A yX12_tells cX12_tells 2 (some .int) 2 [.ref (ad 0), .int a1] s0 ρ σ' := by
  refine gM_of (by decide) (Nat.le_of_ble_eq_true rfl) ?_
  intro p e s m args below meth c ls X G Y hr hlk hl
  have hl : lv_has ls 2 [(0, .ref (ad 0)), (1, .int a1)] := hl
  unfold m_tells at h
  refine lv_aload_n X.1 X.2.1 (dck_at da_X12_tells 0 rfl) rfl (lv_at hl 0 rfl) ?_
  refine lv_iload_n X.1 X.2.1 (dck_at da_X12_tells 1 rfl) rfl (lv_at hl 1 rfl) ?_
  refine lv_i2l (v := (a1).toInt64) X.1 X.2.1 (dck_at da_X12_tells 2 rfl) rfl ?_
  obtain ⟨r1, s1, hc, h⟩ := gB2_some h
  refine gr_backl Y (gr_runV (as := [.long ((a1).toInt64)]) (rest := []) X G Y (ok_m_says hc) cv_RX12_120 clM_0 ⟨Nat.le_of_ble_eq_true rfl, Nat.le_of_ble_eq_true rfl⟩ rfl hl.1 (Nat.le_of_ble_eq_true rfl) (dck_at da_X12_tells 3 rfl)) (fun H locs Y => ?_)
  refine lv_l2i (v := (r1).toInt32) X.1 X.2.1 (dck_at da_X12_tells 4 rfl) rfl ?_
  exact gr_iretO X Y h hr rfl hlk (dck_at da_X12_tells 5 rfl)
set_option maxRecDepth 100000 in
set_option maxHeartbeats 4000000 in
theorem ok_m_status {l : Launch} {D : va_G} {cy : Nat → ClassId} {ad sa : Nat → Nat} {A : Nat → Prop} {F : Nat} {a1 : Int32} {s0 : St} {ρ : Int32} {σ' : St} (h : m_status F a1 s0 = some (ρ, σ')) : gMi l shM D cy ad sa A yX12_status cX12_status 2 (some .int) 3 [.ref (ad 0), .int a1] s0 ρ σ' := by
  refine gM_of (by decide) (Nat.le_of_ble_eq_true rfl) ?_
  intro p e s m args below meth c ls X G Y hr hlk hl
  have hl : lv_has ls 2 [(0, .ref (ad 0)), (1, .int a1)] := hl
  unfold m_status at h
  refine lv_iload_n X.1 X.2.1 (dck_at da_X12_status 0 rfl) rfl (lv_at hl 1 rfl) ?_
  refine lv_i2l (v := (a1).toInt64) X.1 X.2.1 (dck_at da_X12_status 1 rfl) rfl ?_
  refine lv_lconst (v := 0) X.1 X.2.1 (dck_at da_X12_status 2 rfl) rfl ?_
  refine lv_ldc2 X.1 X.2.1 X.2.2.2.1 (X.2.2.2.2 _ wm_1280) (dck_at da_X12_status 3 rfl) ?_
  obtain ⟨r1, s1, hc, h⟩ := gB2_some h
  refine gr_backi Y (gr_runS (as := [.long ((a1).toInt64), .long (0 : Int64), .long (8 : Int64)]) (rest := []) X G Y (ok_m_in hc) cs_RX12_126 ⟨Nat.le_of_ble_eq_true rfl, Nat.le_of_ble_eq_true rfl⟩ rfl hl.1 (Nat.le_of_ble_eq_true rfl) (dck_at da_X12_status 4 rfl)) (fun H locs Y => ?_)
  refine lv_if_eq (tgt := 21) X.1 X.2.1 (dck_at da_X12_status 5 rfl) rfl (fun c => ?_) (fun c => ?_)
  · have h := gI_pos h c
    refine lv_aload_n X.1 X.2.1 (dck_at da_X12_status 11 rfl) rfl (lv_at hl 0 rfl) ?_
    refine lv_iconst X.1 X.2.1 (dck_at da_X12_status 12 rfl) ki_m1 ?_
    obtain ⟨r2, s2, hc, h⟩ := gB2_some h
    refine gr_backi Y (gr_runV (as := [.int (-1 : Int32)]) (rest := []) X G Y (ok_m_tells hc) cv_RX12_130 clM_0 ⟨Nat.le_of_ble_eq_true rfl, Nat.le_of_ble_eq_true rfl⟩ rfl hl.1 (Nat.le_of_ble_eq_true rfl) (dck_at da_X12_status 13 rfl)) (fun H locs Y => ?_)
    exact gr_iretO X Y h hr rfl hlk (dck_at da_X12_status 14 rfl)
  · have h := gI_neg h c
    refine lv_aload_n X.1 X.2.1 (dck_at da_X12_status 6 rfl) rfl (lv_at hl 0 rfl) ?_
    refine gr_getR X G Y fk_RX12_7 clM_0 rfl (dck_at da_X12_status 7 rfl) ?_
    refine lv_iload_n X.1 X.2.1 (dck_at da_X12_status 8 rfl) rfl (lv_at hl 1 rfl) ?_
    obtain ⟨hin, h⟩ := gI_if h
    refine gr_iald X G Y clM_1 hin (dck_at da_X12_status 9 rfl) ?_
    refine lv_goto (tgt := 26) X.1 X.2.1 (dck_at da_X12_status 10 rfl) rfl ?_
    exact gr_iretO X Y h hr rfl hlk (dck_at da_X12_status 14 rfl)
set_option maxRecDepth 100000 in
set_option maxHeartbeats 4000000 in
theorem ok_m_isCell {l : Launch} {D : va_G} {cy : Nat → ClassId} {ad sa : Nat → Nat} {A : Nat → Prop} {F : Nat} {a0 : Int32} {s0 : St} {ρ : Int32} {σ' : St} (h : m_isCell F a0 s0 = some (ρ, σ')) : gMi l shM D cy ad sa A yX12_isCell cX12_isCell 1 (some .boolean) 2 [.int a0] s0 ρ σ' := by
  refine gM_of (by decide) (Nat.le_of_ble_eq_true rfl) ?_
  intro p e s m args below meth c ls X G Y hr hlk hl
  have hl : lv_has ls 1 [(0, .int a0)] := hl
  unfold m_isCell at h
  refine lv_iload_n X.1 X.2.1 (dck_at da_X12_isCell 0 rfl) rfl (lv_at hl 0 rfl) ?_
  refine lv_i2l (v := (a0).toInt64) X.1 X.2.1 (dck_at da_X12_isCell 1 rfl) rfl ?_
  refine lv_lconst (v := 0) X.1 X.2.1 (dck_at da_X12_isCell 2 rfl) rfl ?_
  refine lv_ldc2 X.1 X.2.1 X.2.2.2.1 (X.2.2.2.2 _ wm_1304) (dck_at da_X12_isCell 3 rfl) ?_
  obtain ⟨r1, s1, hc, h⟩ := gB2_some h
  refine gr_backi Y (gr_runS (as := [.long ((a0).toInt64), .long (0 : Int64), .long (143 : Int64)]) (rest := []) X G Y (ok_m_in hc) cs_RX12_126 ⟨Nat.le_of_ble_eq_true rfl, Nat.le_of_ble_eq_true rfl⟩ rfl hl.1 (Nat.le_of_ble_eq_true rfl) (dck_at da_X12_isCell 4 rfl)) (fun H locs Y => ?_)
  obtain ⟨hz, h⟩ := gI_if h
  exact gr_iretO X Y h hr (gz_nar hz) hlk (dck_at da_X12_isCell 5 rfl)
set_option maxRecDepth 100000 in
set_option maxHeartbeats 4000000 in
theorem ok_m_isKind {l : Launch} {D : va_G} {cy : Nat → ClassId} {ad sa : Nat → Nat} {A : Nat → Prop} {F : Nat} {a0 : Int32} {s0 : St} {ρ : Int32} {σ' : St} (h : m_isKind F a0 s0 = some (ρ, σ')) : gMi l shM D cy ad sa A yX12_isKind cX12_isKind 1 (some .boolean) 2 [.int a0] s0 ρ σ' := by
  refine gM_of (by decide) (Nat.le_of_ble_eq_true rfl) ?_
  intro p e s m args below meth c ls X G Y hr hlk hl
  have hl : lv_has ls 1 [(0, .int a0)] := hl
  unfold m_isKind at h
  refine lv_iload_n X.1 X.2.1 (dck_at da_X12_isKind 0 rfl) rfl (lv_at hl 0 rfl) ?_
  refine lv_i2l (v := (a0).toInt64) X.1 X.2.1 (dck_at da_X12_isKind 1 rfl) rfl ?_
  refine lv_lconst (v := 0) X.1 X.2.1 (dck_at da_X12_isKind 2 rfl) rfl ?_
  refine lv_ldc2 X.1 X.2.1 X.2.2.2.1 (X.2.2.2.2 _ wm_1308) (dck_at da_X12_isKind 3 rfl) ?_
  obtain ⟨r1, s1, hc, h⟩ := gB2_some h
  refine gr_backi Y (gr_runS (as := [.long ((a0).toInt64), .long (0 : Int64), .long (7 : Int64)]) (rest := []) X G Y (ok_m_in hc) cs_RX12_126 ⟨Nat.le_of_ble_eq_true rfl, Nat.le_of_ble_eq_true rfl⟩ rfl hl.1 (Nat.le_of_ble_eq_true rfl) (dck_at da_X12_isKind 4 rfl)) (fun H locs Y => ?_)
  obtain ⟨hz, h⟩ := gI_if h
  exact gr_iretO X Y h hr (gz_nar hz) hlk (dck_at da_X12_isKind 5 rfl)
set_option maxRecDepth 100000 in
set_option maxHeartbeats 4000000 in
theorem ok_m_kind {l : Launch} {D : va_G} {cy : Nat → ClassId} {ad sa : Nat → Nat} {A : Nat → Prop} {F : Nat} {a1 : Int32} {a2 : Int32} {s0 : St} {ρ : Int32} {σ' : St} (h : m_kind F a1 a2 s0 = some (ρ, σ')) : gMi l shM D cy ad sa A yX12_kind cX12_kind 4 (some .int) 3 [.ref (ad 0), .int a1, .int a2] s0 ρ σ' := by
  refine gM_of (by decide) (Nat.le_of_ble_eq_true rfl) ?_
  intro p e s m args below meth c ls X G Y hr hlk hl
  have hl : lv_has ls 4 [(0, .ref (ad 0)), (1, .int a1), (2, .int a2)] := hl
  have b14 : ∀  (s0 : St) (H : Heap) (locs : List Loc) (ls : Array Slot), m_kind_J14 F  s0 = some (ρ, σ') → gY shM D cy ad A s0 s H locs → lv_has ls 4 [(0, .ref (ad 0))] → W p l e (grm 3) s m args below meth c H locs 0 0 (MQ below (va_Qi (fun (q : Int32) (_ : Unit) => q = ρ) (fun _ t => va_P D vwCl (gWl shM cy ad σ') t.heap) A) args s 0 0 A) (F0 m 14 ls []) := by
    intro s0 H locs ls h Y hl
    unfold m_kind_J14 at h
    refine lv_aload_n X.1 X.2.1 (dck_at da_X12_kind 6 rfl) rfl (lv_at hl 0 rfl) ?_
    refine lv_iconst X.1 X.2.1 (dck_at da_X12_kind 7 rfl) ki_m1 ?_
    obtain ⟨r1, s1, hc, h⟩ := gB2_some h
    refine gr_backi Y (gr_runV (as := [.int (-1 : Int32)]) (rest := []) X G Y (ok_m_tells hc) cv_RX12_130 clM_0 ⟨Nat.le_of_ble_eq_true rfl, Nat.le_of_ble_eq_true rfl⟩ rfl hl.1 (Nat.le_of_ble_eq_true rfl) (dck_at da_X12_kind 8 rfl)) (fun H locs Y => ?_)
    exact gr_iretO X Y h hr rfl hlk (dck_at da_X12_kind 9 rfl)
  unfold m_kind at h
  refine lv_iload_n X.1 X.2.1 (dck_at da_X12_kind 0 rfl) rfl (lv_at hl 1 rfl) ?_
  obtain ⟨r2, s2, hc, h⟩ := gB2_some h
  refine gr_backi Y (gr_runS (as := [.int a1]) (rest := []) X G Y (ok_m_isCell hc) cs_RX12_138 ⟨Nat.le_of_ble_eq_true rfl, Nat.le_of_ble_eq_true rfl⟩ rfl hl.1 (Nat.le_of_ble_eq_true rfl) (dck_at da_X12_kind 1 rfl)) (fun H locs Y => ?_)
  refine lv_if_eq (tgt := 14) X.1 X.2.1 (dck_at da_X12_kind 2 rfl) rfl (fun c => ?_) (fun c => ?_)
  · have h := gI_pos h c
    exact b14 s2 _ _ _ h Y (lv_sub hl [0] rfl)
  · have h := gI_neg h c
    refine lv_iload_n X.1 X.2.1 (dck_at da_X12_kind 3 rfl) rfl (lv_at hl 2 rfl) ?_
    obtain ⟨r3, s3, hc, h⟩ := gB2_some h
    refine gr_backi Y (gr_runS (as := [.int a2]) (rest := []) X G Y (ok_m_isKind hc) cs_RX12_142 ⟨Nat.le_of_ble_eq_true rfl, Nat.le_of_ble_eq_true rfl⟩ rfl hl.1 (Nat.le_of_ble_eq_true rfl) (dck_at da_X12_kind 4 rfl)) (fun H locs Y => ?_)
    refine lv_if_ne (tgt := 20) X.1 X.2.1 (dck_at da_X12_kind 5 rfl) rfl (fun c => ?_) (fun c => ?_)
    · have h := gI_neg h c
      refine lv_aload_n X.1 X.2.1 (dck_at da_X12_kind 10 rfl) rfl (lv_at hl 0 rfl) ?_
      refine gr_getR X G Y fk_RX12_13 clM_0 rfl (dck_at da_X12_kind 11 rfl) ?_
      refine lv_iload_n X.1 X.2.1 (dck_at da_X12_kind 12 rfl) rfl (lv_at hl 1 rfl) ?_
      obtain ⟨hin, h⟩ := gI_if h
      refine gr_iald X G Y clM_2 hin (dck_at da_X12_kind 13 rfl) ?_
      refine lv_istore_n (lv' := [(3, .int (s3.1 2 (a1).toNatClampNeg)), (0, .ref (ad 0)), (1, .int a1), (2, .int a2)]) X.1 X.2.1 (dck_at da_X12_kind 14 rfl) rfl hl (by decide) rfl (fun ls hl => ?_)
      refine lv_aload_n X.1 X.2.1 (dck_at da_X12_kind 15 rfl) rfl (lv_at hl 1 rfl) ?_
      refine gr_getR X G Y fk_RX12_13 clM_0 rfl (dck_at da_X12_kind 16 rfl) ?_
      refine lv_iload_n X.1 X.2.1 (dck_at da_X12_kind 17 rfl) rfl (lv_at hl 2 rfl) ?_
      refine lv_iload_n X.1 X.2.1 (dck_at da_X12_kind 18 rfl) rfl (lv_at hl 3 rfl) ?_
      obtain ⟨hin, h⟩ := gI_if h
      refine gr_iast X G Y clM_2 hin (dck_at da_X12_kind 19 rfl) (fun H locs Y => ?_)
      refine lv_iload_n X.1 X.2.1 (dck_at da_X12_kind 20 rfl) rfl (lv_at hl 0 rfl) ?_
      exact gr_iretO X Y h hr rfl hlk (dck_at da_X12_kind 21 rfl)
    · have h := gI_pos h c
      exact b14 s3 _ _ _ h Y (lv_sub hl [0] rfl)
set_option maxRecDepth 100000 in
set_option maxHeartbeats 4000000 in
theorem ok_m_draw {l : Launch} {D : va_G} {cy : Nat → ClassId} {ad sa : Nat → Nat} {A : Nat → Prop} {F : Nat} {a1 : Int32} {a2 : Int32} {s0 : St} {ρ : Int32} {σ' : St} (h : m_draw F a1 a2 s0 = some (ρ, σ')) : gMi l shM D cy ad sa A yX12_draw cX12_draw 4 (some .int) 3 [.ref (ad 0), .int a1, .int a2] s0 ρ σ' := by
  refine gM_of (by decide) (Nat.le_of_ble_eq_true rfl) ?_
  intro p e s m args below meth c ls X G Y hr hlk hl
  have hl : lv_has ls 4 [(0, .ref (ad 0)), (1, .int a1), (2, .int a2)] := hl
  have b19 : ∀  (s0 : St) (H : Heap) (locs : List Loc) (ls : Array Slot), m_draw_J19 F  s0 = some (ρ, σ') → gY shM D cy ad A s0 s H locs → lv_has ls 4 [(0, .ref (ad 0))] → W p l e (grm 3) s m args below meth c H locs 0 0 (MQ below (va_Qi (fun (q : Int32) (_ : Unit) => q = ρ) (fun _ t => va_P D vwCl (gWl shM cy ad σ') t.heap) A) args s 0 0 A) (F0 m 19 ls []) := by
    intro s0 H locs ls h Y hl
    unfold m_draw_J19 at h
    refine lv_aload_n X.1 X.2.1 (dck_at da_X12_draw 9 rfl) rfl (lv_at hl 0 rfl) ?_
    refine lv_iconst X.1 X.2.1 (dck_at da_X12_draw 10 rfl) ki_m1 ?_
    obtain ⟨r1, s1, hc, h⟩ := gB2_some h
    refine gr_backi Y (gr_runV (as := [.int (-1 : Int32)]) (rest := []) X G Y (ok_m_tells hc) cv_RX12_130 clM_0 ⟨Nat.le_of_ble_eq_true rfl, Nat.le_of_ble_eq_true rfl⟩ rfl hl.1 (Nat.le_of_ble_eq_true rfl) (dck_at da_X12_draw 11 rfl)) (fun H locs Y => ?_)
    exact gr_iretO X Y h hr rfl hlk (dck_at da_X12_draw 12 rfl)
  unfold m_draw at h
  refine lv_iload_n X.1 X.2.1 (dck_at da_X12_draw 0 rfl) rfl (lv_at hl 1 rfl) ?_
  obtain ⟨r2, s2, hc, h⟩ := gB2_some h
  refine gr_backi Y (gr_runS (as := [.int a1]) (rest := []) X G Y (ok_m_isCell hc) cs_RX12_138 ⟨Nat.le_of_ble_eq_true rfl, Nat.le_of_ble_eq_true rfl⟩ rfl hl.1 (Nat.le_of_ble_eq_true rfl) (dck_at da_X12_draw 1 rfl)) (fun H locs Y => ?_)
  refine lv_if_eq (tgt := 19) X.1 X.2.1 (dck_at da_X12_draw 2 rfl) rfl (fun c => ?_) (fun c => ?_)
  · have h := gI_pos h c
    exact b19 s2 _ _ _ h Y (lv_sub hl [0] rfl)
  · have h := gI_neg h c
    refine lv_iload_n X.1 X.2.1 (dck_at da_X12_draw 3 rfl) rfl (lv_at hl 2 rfl) ?_
    refine lv_i2l (v := (a2).toInt64) X.1 X.2.1 (dck_at da_X12_draw 4 rfl) rfl ?_
    refine lv_lconst (v := 0) X.1 X.2.1 (dck_at da_X12_draw 5 rfl) rfl ?_
    refine lv_ldc2 X.1 X.2.1 X.2.2.2.1 (X.2.2.2.2 _ wm_1313) (dck_at da_X12_draw 6 rfl) ?_
    obtain ⟨r3, s3, hc, h⟩ := gB2_some h
    refine gr_backi Y (gr_runS (as := [.long ((a2).toInt64), .long (0 : Int64), .long (9 : Int64)]) (rest := []) X G Y (ok_m_in hc) cs_RX12_126 ⟨Nat.le_of_ble_eq_true rfl, Nat.le_of_ble_eq_true rfl⟩ rfl hl.1 (Nat.le_of_ble_eq_true rfl) (dck_at da_X12_draw 7 rfl)) (fun H locs Y => ?_)
    refine lv_if_ne (tgt := 25) X.1 X.2.1 (dck_at da_X12_draw 8 rfl) rfl (fun c => ?_) (fun c => ?_)
    · have h := gI_neg h c
      refine lv_aload_n X.1 X.2.1 (dck_at da_X12_draw 13 rfl) rfl (lv_at hl 0 rfl) ?_
      refine gr_getR X G Y fk_RX12_16 clM_0 rfl (dck_at da_X12_draw 14 rfl) ?_
      refine lv_iload_n X.1 X.2.1 (dck_at da_X12_draw 15 rfl) rfl (lv_at hl 1 rfl) ?_
      obtain ⟨hin, h⟩ := gI_if h
      refine gr_iald X G Y clM_3 hin (dck_at da_X12_draw 16 rfl) ?_
      refine lv_istore_n (lv' := [(3, .int (s3.1 3 (a1).toNatClampNeg)), (0, .ref (ad 0)), (1, .int a1), (2, .int a2)]) X.1 X.2.1 (dck_at da_X12_draw 17 rfl) rfl hl (by decide) rfl (fun ls hl => ?_)
      refine lv_aload_n X.1 X.2.1 (dck_at da_X12_draw 18 rfl) rfl (lv_at hl 1 rfl) ?_
      refine gr_getR X G Y fk_RX12_16 clM_0 rfl (dck_at da_X12_draw 19 rfl) ?_
      refine lv_iload_n X.1 X.2.1 (dck_at da_X12_draw 20 rfl) rfl (lv_at hl 2 rfl) ?_
      refine lv_iload_n X.1 X.2.1 (dck_at da_X12_draw 21 rfl) rfl (lv_at hl 3 rfl) ?_
      obtain ⟨hin, h⟩ := gI_if h
      refine gr_iast X G Y clM_3 hin (dck_at da_X12_draw 22 rfl) (fun H locs Y => ?_)
      refine lv_iload_n X.1 X.2.1 (dck_at da_X12_draw 23 rfl) rfl (lv_at hl 0 rfl) ?_
      exact gr_iretO X Y h hr rfl hlk (dck_at da_X12_draw 24 rfl)
    · have h := gI_pos h c
      exact b19 s3 _ _ _ h Y (lv_sub hl [0] rfl)
set_option maxRecDepth 100000 in
set_option maxHeartbeats 4000000 in
theorem ok_m_told {l : Launch} {D : va_G} {cy : Nat → ClassId} {ad sa : Nat → Nat} {A : Nat → Prop} {F : Nat} {a1 : Int32} {a2 : Int32} {s0 : St} {ρ : Int32} {σ' : St} (h : m_told F a1 a2 s0 = some (ρ, σ')) : gMi l shM D cy ad sa A yX12_told cX12_told 3 (some .int) 3 [.ref (ad 0), .int a1, .int a2] s0 ρ σ' := by
  refine gM_of (by decide) (Nat.le_of_ble_eq_true rfl) ?_
  intro p e s m args below meth c ls X G Y hr hlk hl
  have hl : lv_has ls 3 [(0, .ref (ad 0)), (1, .int a1), (2, .int a2)] := hl
  have b19 : ∀  (s0 : St) (H : Heap) (locs : List Loc) (ls : Array Slot), m_told_J19 F  s0 = some (ρ, σ') → gY shM D cy ad A s0 s H locs → lv_has ls 3 [(0, .ref (ad 0))] → W p l e (grm 3) s m args below meth c H locs 0 0 (MQ below (va_Qi (fun (q : Int32) (_ : Unit) => q = ρ) (fun _ t => va_P D vwCl (gWl shM cy ad σ') t.heap) A) args s 0 0 A) (F0 m 19 ls []) := by
    intro s0 H locs ls h Y hl
    unfold m_told_J19 at h
    refine lv_aload_n X.1 X.2.1 (dck_at da_X12_told 9 rfl) rfl (lv_at hl 0 rfl) ?_
    refine lv_iconst X.1 X.2.1 (dck_at da_X12_told 10 rfl) ki_m1 ?_
    obtain ⟨r1, s1, hc, h⟩ := gB2_some h
    refine gr_backi Y (gr_runV (as := [.int (-1 : Int32)]) (rest := []) X G Y (ok_m_tells hc) cv_RX12_130 clM_0 ⟨Nat.le_of_ble_eq_true rfl, Nat.le_of_ble_eq_true rfl⟩ rfl hl.1 (Nat.le_of_ble_eq_true rfl) (dck_at da_X12_told 11 rfl)) (fun H locs Y => ?_)
    exact gr_iretO X Y h hr rfl hlk (dck_at da_X12_told 12 rfl)
  unfold m_told at h
  refine lv_iload_n X.1 X.2.1 (dck_at da_X12_told 0 rfl) rfl (lv_at hl 1 rfl) ?_
  obtain ⟨r2, s2, hc, h⟩ := gB2_some h
  refine gr_backi Y (gr_runS (as := [.int a1]) (rest := []) X G Y (ok_m_isCell hc) cs_RX12_138 ⟨Nat.le_of_ble_eq_true rfl, Nat.le_of_ble_eq_true rfl⟩ rfl hl.1 (Nat.le_of_ble_eq_true rfl) (dck_at da_X12_told 1 rfl)) (fun H locs Y => ?_)
  refine lv_if_eq (tgt := 19) X.1 X.2.1 (dck_at da_X12_told 2 rfl) rfl (fun c => ?_) (fun c => ?_)
  · have h := gI_pos h c
    exact b19 s2 _ _ _ h Y (lv_sub hl [0] rfl)
  · have h := gI_neg h c
    refine lv_iload_n X.1 X.2.1 (dck_at da_X12_told 3 rfl) rfl (lv_at hl 2 rfl) ?_
    refine lv_i2l (v := (a2).toInt64) X.1 X.2.1 (dck_at da_X12_told 4 rfl) rfl ?_
    refine lv_lconst (v := 0) X.1 X.2.1 (dck_at da_X12_told 5 rfl) rfl ?_
    refine lv_ldc2 X.1 X.2.1 X.2.2.2.1 (X.2.2.2.2 _ wm_1318) (dck_at da_X12_told 6 rfl) ?_
    obtain ⟨r3, s3, hc, h⟩ := gB2_some h
    refine gr_backi Y (gr_runS (as := [.long ((a2).toInt64), .long (0 : Int64), .long (2 : Int64)]) (rest := []) X G Y (ok_m_in hc) cs_RX12_126 ⟨Nat.le_of_ble_eq_true rfl, Nat.le_of_ble_eq_true rfl⟩ rfl hl.1 (Nat.le_of_ble_eq_true rfl) (dck_at da_X12_told 7 rfl)) (fun H locs Y => ?_)
    refine lv_if_ne (tgt := 25) X.1 X.2.1 (dck_at da_X12_told 8 rfl) rfl (fun c => ?_) (fun c => ?_)
    · have h := gI_neg h c
      refine lv_iload_n X.1 X.2.1 (dck_at da_X12_told 13 rfl) rfl (lv_at hl 2 rfl) ?_
      refine lv_if_ne (tgt := 38) X.1 X.2.1 (dck_at da_X12_told 14 rfl) rfl (fun c => ?_) (fun c => ?_)
      · have h := gI_neg h c
        refine lv_iload_n X.1 X.2.1 (dck_at da_X12_told 20 rfl) rfl (lv_at hl 2 rfl) ?_
        refine lv_iconst X.1 X.2.1 (dck_at da_X12_told 21 rfl) ki_1 ?_
        refine lv_icmp_ne (tgt := 52) X.1 X.2.1 (dck_at da_X12_told 22 rfl) rfl (fun c => ?_) (fun c => ?_)
        · have h := gI_neg h c
          refine lv_aload_n X.1 X.2.1 (dck_at da_X12_told 28 rfl) rfl (lv_at hl 0 rfl) ?_
          refine gr_getR X G Y fk_RX12_19 clM_0 rfl (dck_at da_X12_told 29 rfl) ?_
          refine lv_iload_n X.1 X.2.1 (dck_at da_X12_told 30 rfl) rfl (lv_at hl 1 rfl) ?_
          obtain ⟨hin, h⟩ := gI_if h
          refine gr_iald X G Y clM_4 hin (dck_at da_X12_told 31 rfl) ?_
          exact gr_iretO X Y h hr rfl hlk (dck_at da_X12_told 32 rfl)
        · have h := gI_pos h c
          refine lv_aload_n X.1 X.2.1 (dck_at da_X12_told 23 rfl) rfl (lv_at hl 0 rfl) ?_
          refine gr_getR X G Y fk_RX12_16 clM_0 rfl (dck_at da_X12_told 24 rfl) ?_
          refine lv_iload_n X.1 X.2.1 (dck_at da_X12_told 25 rfl) rfl (lv_at hl 1 rfl) ?_
          obtain ⟨hin, h⟩ := gI_if h
          refine gr_iald X G Y clM_3 hin (dck_at da_X12_told 26 rfl) ?_
          refine lv_goto (tgt := 58) X.1 X.2.1 (dck_at da_X12_told 27 rfl) rfl ?_
          exact gr_iretO X Y h hr rfl hlk (dck_at da_X12_told 32 rfl)
      · have h := gI_pos h c
        refine lv_aload_n X.1 X.2.1 (dck_at da_X12_told 15 rfl) rfl (lv_at hl 0 rfl) ?_
        refine gr_getR X G Y fk_RX12_13 clM_0 rfl (dck_at da_X12_told 16 rfl) ?_
        refine lv_iload_n X.1 X.2.1 (dck_at da_X12_told 17 rfl) rfl (lv_at hl 1 rfl) ?_
        obtain ⟨hin, h⟩ := gI_if h
        refine gr_iald X G Y clM_2 hin (dck_at da_X12_told 18 rfl) ?_
        refine lv_goto (tgt := 58) X.1 X.2.1 (dck_at da_X12_told 19 rfl) rfl ?_
        exact gr_iretO X Y h hr rfl hlk (dck_at da_X12_told 32 rfl)
    · have h := gI_pos h c
      exact b19 s3 _ _ _ h Y (lv_sub hl [0] rfl)
set_option maxRecDepth 100000 in
set_option maxHeartbeats 4000000 in
theorem ok_m_set {l : Launch} {D : va_G} {cy : Nat → ClassId} {ad sa : Nat → Nat} {A : Nat → Prop} {F : Nat} {a1 : Int32} {a2 : Int32} {s0 : St} {ρ : Int32} {σ' : St} (h : m_set F a1 a2 s0 = some (ρ, σ')) : gMi l shM D cy ad sa A yX12_set cX12_set 4 (some .int) 3 [.ref (ad 0), .int a1, .int a2] s0 ρ σ' := by
  refine gM_of (by decide) (Nat.le_of_ble_eq_true rfl) ?_
  intro p e s m args below meth c ls X G Y hr hlk hl
  have hl : lv_has ls 4 [(0, .ref (ad 0)), (1, .int a1), (2, .int a2)] := hl
  have b48 : ∀  (s0 : St) (H : Heap) (locs : List Loc) (ls : Array Slot), m_set_J48 F  s0 = some (ρ, σ') → gY shM D cy ad A s0 s H locs → lv_has ls 4 [(0, .ref (ad 0))] → W p l e (grm 3) s m args below meth c H locs 0 0 (MQ below (va_Qi (fun (q : Int32) (_ : Unit) => q = ρ) (fun _ t => va_P D vwCl (gWl shM cy ad σ') t.heap) A) args s 0 0 A) (F0 m 48 ls []) := by
    intro s0 H locs ls h Y hl
    unfold m_set_J48 at h
    refine lv_aload_n X.1 X.2.1 (dck_at da_X12_set 22 rfl) rfl (lv_at hl 0 rfl) ?_
    refine lv_iconst X.1 X.2.1 (dck_at da_X12_set 23 rfl) ki_m1 ?_
    obtain ⟨r1, s1, hc, h⟩ := gB2_some h
    refine gr_backi Y (gr_runV (as := [.int (-1 : Int32)]) (rest := []) X G Y (ok_m_tells hc) cv_RX12_130 clM_0 ⟨Nat.le_of_ble_eq_true rfl, Nat.le_of_ble_eq_true rfl⟩ rfl hl.1 (Nat.le_of_ble_eq_true rfl) (dck_at da_X12_set 24 rfl)) (fun H locs Y => ?_)
    exact gr_iretO X Y h hr rfl hlk (dck_at da_X12_set 25 rfl)
  have b42 : ∀ (x1 : Int32) (x2 : Int32) (y0 : Int64) (y1 : Int64) (y2 : Int64) (s0 : St) (H : Heap) (locs : List Loc) (ls : Array Slot), m_set_J42 F  x1 x2 y0 y1 y2 s0 = some (ρ, σ') → gY shM D cy ad A s0 s H locs → lv_has ls 4 [(0, .ref (ad 0)), (1, .int x1), (2, .int x2)] → W p l e (grm 3) s m args below meth c H locs 0 0 (MQ below (va_Qi (fun (q : Int32) (_ : Unit) => q = ρ) (fun _ t => va_P D vwCl (gWl shM cy ad σ') t.heap) A) args s 0 0 A) (F0 m 42 ls [.long y2, .long y1, .long y0]) := by
    intro x1 x2 y0 y1 y2 s0 H locs ls h Y hl
    unfold m_set_J42 at h
    obtain ⟨r2, s2, hc, h⟩ := gB2_some h
    refine gr_backi Y (gr_runS (as := [.long y0, .long y1, .long y2]) (rest := []) X G Y (ok_m_in hc) cs_RX12_126 ⟨Nat.le_of_ble_eq_true rfl, Nat.le_of_ble_eq_true rfl⟩ rfl hl.1 (Nat.le_of_ble_eq_true rfl) (dck_at da_X12_set 20 rfl)) (fun H locs Y => ?_)
    refine lv_if_ne (tgt := 54) X.1 X.2.1 (dck_at da_X12_set 21 rfl) rfl (fun c => ?_) (fun c => ?_)
    · have h := gI_neg h c
      refine lv_aload_n X.1 X.2.1 (dck_at da_X12_set 26 rfl) rfl (lv_at hl 0 rfl) ?_
      refine gr_getR X G Y fk_RX12_22 clM_0 rfl (dck_at da_X12_set 27 rfl) ?_
      refine lv_iload_n X.1 X.2.1 (dck_at da_X12_set 28 rfl) rfl (lv_at hl 1 rfl) ?_
      obtain ⟨hin, h⟩ := gI_if h
      refine gr_iald X G Y clM_5 hin (dck_at da_X12_set 29 rfl) ?_
      refine lv_istore_n (lv' := [(3, .int (s2.1 5 (x1).toNatClampNeg)), (0, .ref (ad 0)), (1, .int x1), (2, .int x2)]) X.1 X.2.1 (dck_at da_X12_set 30 rfl) rfl hl (by decide) rfl (fun ls hl => ?_)
      refine lv_aload_n X.1 X.2.1 (dck_at da_X12_set 31 rfl) rfl (lv_at hl 1 rfl) ?_
      refine gr_getR X G Y fk_RX12_22 clM_0 rfl (dck_at da_X12_set 32 rfl) ?_
      refine lv_iload_n X.1 X.2.1 (dck_at da_X12_set 33 rfl) rfl (lv_at hl 2 rfl) ?_
      refine lv_iload_n X.1 X.2.1 (dck_at da_X12_set 34 rfl) rfl (lv_at hl 3 rfl) ?_
      obtain ⟨hin, h⟩ := gI_if h
      refine gr_iast X G Y clM_5 hin (dck_at da_X12_set 35 rfl) (fun H locs Y => ?_)
      refine lv_iload_n X.1 X.2.1 (dck_at da_X12_set 36 rfl) rfl (lv_at hl 0 rfl) ?_
      exact gr_iretO X Y h hr rfl hlk (dck_at da_X12_set 37 rfl)
    · have h := gI_pos h c
      exact b48 s2 _ _ _ h Y (lv_sub hl [0] rfl)
  unfold m_set at h
  refine lv_iload_n X.1 X.2.1 (dck_at da_X12_set 0 rfl) rfl (lv_at hl 1 rfl) ?_
  refine lv_i2l (v := (a1).toInt64) X.1 X.2.1 (dck_at da_X12_set 1 rfl) rfl ?_
  refine lv_lconst (v := 0) X.1 X.2.1 (dck_at da_X12_set 2 rfl) rfl ?_
  refine lv_ldc2 X.1 X.2.1 X.2.2.2.1 (X.2.2.2.2 _ wm_1313) (dck_at da_X12_set 3 rfl) ?_
  obtain ⟨r3, s3, hc, h⟩ := gB2_some h
  refine gr_backi Y (gr_runS (as := [.long ((a1).toInt64), .long (0 : Int64), .long (9 : Int64)]) (rest := []) X G Y (ok_m_in hc) cs_RX12_126 ⟨Nat.le_of_ble_eq_true rfl, Nat.le_of_ble_eq_true rfl⟩ rfl hl.1 (Nat.le_of_ble_eq_true rfl) (dck_at da_X12_set 4 rfl)) (fun H locs Y => ?_)
  refine lv_if_eq (tgt := 48) X.1 X.2.1 (dck_at da_X12_set 5 rfl) rfl (fun c => ?_) (fun c => ?_)
  · have h := gI_pos h c
    exact b48 s3 _ _ _ h Y (lv_sub hl [0] rfl)
  · have h := gI_neg h c
    refine lv_iload_n X.1 X.2.1 (dck_at da_X12_set 6 rfl) rfl (lv_at hl 2 rfl) ?_
    refine lv_i2l (v := (a2).toInt64) X.1 X.2.1 (dck_at da_X12_set 7 rfl) rfl ?_
    refine lv_lconst (v := 0) X.1 X.2.1 (dck_at da_X12_set 8 rfl) rfl ?_
    refine lv_iload_n X.1 X.2.1 (dck_at da_X12_set 9 rfl) rfl (lv_at hl 1 rfl) ?_
    refine lv_bipush X.1 X.2.1 (dck_at da_X12_set 10 rfl) kb_6 ?_
    refine lv_icmp_ne (tgt := 27) X.1 X.2.1 (dck_at da_X12_set 11 rfl) rfl (fun c => ?_) (fun c => ?_)
    · have h := gI_neg h c
      refine lv_iload_n X.1 X.2.1 (dck_at da_X12_set 14 rfl) rfl (lv_at hl 1 rfl) ?_
      refine lv_bipush X.1 X.2.1 (dck_at da_X12_set 15 rfl) kb_7 ?_
      refine lv_icmp_le (tgt := 39) X.1 X.2.1 (dck_at da_X12_set 16 rfl) rfl (fun c => ?_) (fun c => ?_)
      · have h := gI_pos h c
        refine lv_ldc2 X.1 X.2.1 X.2.2.2.1 (X.2.2.2.2 _ wm_1313) (dck_at da_X12_set 19 rfl) ?_
        exact b42 a1 a2 ((a2).toInt64) (0 : Int64) (9 : Int64) s3 _ _ _ h Y (lv_sub hl [0, 1, 2] rfl)
      · have h := gI_neg h c
        refine lv_ldc2 X.1 X.2.1 X.2.2.2.1 (X.2.2.2.2 _ wm_1324) (dck_at da_X12_set 17 rfl) ?_
        refine lv_goto (tgt := 42) X.1 X.2.1 (dck_at da_X12_set 18 rfl) rfl ?_
        exact b42 a1 a2 ((a2).toInt64) (0 : Int64) (999 : Int64) s3 _ _ _ h Y (lv_sub hl [0, 1, 2] rfl)
    · have h := gI_pos h c
      refine lv_ldc2 X.1 X.2.1 X.2.2.2.1 (X.2.2.2.2 _ wm_1323) (dck_at da_X12_set 12 rfl) ?_
      refine lv_goto (tgt := 42) X.1 X.2.1 (dck_at da_X12_set 13 rfl) rfl ?_
      exact b42 a1 a2 ((a2).toInt64) (0 : Int64) (3 : Int64) s3 _ _ _ h Y (lv_sub hl [0, 1, 2] rfl)
set_option maxRecDepth 100000 in
set_option maxHeartbeats 4000000 in
theorem ok_m_sits {l : Launch} {D : va_G} {cy : Nat → ClassId} {ad sa : Nat → Nat} {A : Nat → Prop} {F : Nat} {a1 : Int32} {a2 : Int32} {s0 : St} {ρ : Int32} {σ' : St} (h : m_sits F a1 a2 s0 = some (ρ, σ')) : gMi l shM D cy ad sa A yX12_sits cX12_sits 4 (some .int) 3 [.ref (ad 0), .int a1, .int a2] s0 ρ σ' := by
  refine gM_of (by decide) (Nat.le_of_ble_eq_true rfl) ?_
  intro p e s m args below meth c ls X G Y hr hlk hl
  have hl : lv_has ls 4 [(0, .ref (ad 0)), (1, .int a1), (2, .int a2)] := hl
  have b19 : ∀  (s0 : St) (H : Heap) (locs : List Loc) (ls : Array Slot), m_sits_J19 F  s0 = some (ρ, σ') → gY shM D cy ad A s0 s H locs → lv_has ls 4 [(0, .ref (ad 0))] → W p l e (grm 3) s m args below meth c H locs 0 0 (MQ below (va_Qi (fun (q : Int32) (_ : Unit) => q = ρ) (fun _ t => va_P D vwCl (gWl shM cy ad σ') t.heap) A) args s 0 0 A) (F0 m 19 ls []) := by
    intro s0 H locs ls h Y hl
    unfold m_sits_J19 at h
    refine lv_aload_n X.1 X.2.1 (dck_at da_X12_sits 9 rfl) rfl (lv_at hl 0 rfl) ?_
    refine lv_iconst X.1 X.2.1 (dck_at da_X12_sits 10 rfl) ki_m1 ?_
    obtain ⟨r1, s1, hc, h⟩ := gB2_some h
    refine gr_backi Y (gr_runV (as := [.int (-1 : Int32)]) (rest := []) X G Y (ok_m_tells hc) cv_RX12_130 clM_0 ⟨Nat.le_of_ble_eq_true rfl, Nat.le_of_ble_eq_true rfl⟩ rfl hl.1 (Nat.le_of_ble_eq_true rfl) (dck_at da_X12_sits 11 rfl)) (fun H locs Y => ?_)
    exact gr_iretO X Y h hr rfl hlk (dck_at da_X12_sits 12 rfl)
  unfold m_sits at h
  refine lv_iload_n X.1 X.2.1 (dck_at da_X12_sits 0 rfl) rfl (lv_at hl 1 rfl) ?_
  obtain ⟨r2, s2, hc, h⟩ := gB2_some h
  refine gr_backi Y (gr_runS (as := [.int a1]) (rest := []) X G Y (ok_m_isKind hc) cs_RX12_142 ⟨Nat.le_of_ble_eq_true rfl, Nat.le_of_ble_eq_true rfl⟩ rfl hl.1 (Nat.le_of_ble_eq_true rfl) (dck_at da_X12_sits 1 rfl)) (fun H locs Y => ?_)
  refine lv_if_eq (tgt := 19) X.1 X.2.1 (dck_at da_X12_sits 2 rfl) rfl (fun c => ?_) (fun c => ?_)
  · have h := gI_pos h c
    exact b19 s2 _ _ _ h Y (lv_sub hl [0] rfl)
  · have h := gI_neg h c
    refine lv_iload_n X.1 X.2.1 (dck_at da_X12_sits 3 rfl) rfl (lv_at hl 2 rfl) ?_
    refine lv_i2l (v := (a2).toInt64) X.1 X.2.1 (dck_at da_X12_sits 4 rfl) rfl ?_
    refine lv_lconst (v := 0) X.1 X.2.1 (dck_at da_X12_sits 5 rfl) rfl ?_
    refine lv_ldc2 X.1 X.2.1 X.2.2.2.1 (X.2.2.2.2 _ wm_1313) (dck_at da_X12_sits 6 rfl) ?_
    obtain ⟨r3, s3, hc, h⟩ := gB2_some h
    refine gr_backi Y (gr_runS (as := [.long ((a2).toInt64), .long (0 : Int64), .long (9 : Int64)]) (rest := []) X G Y (ok_m_in hc) cs_RX12_126 ⟨Nat.le_of_ble_eq_true rfl, Nat.le_of_ble_eq_true rfl⟩ rfl hl.1 (Nat.le_of_ble_eq_true rfl) (dck_at da_X12_sits 7 rfl)) (fun H locs Y => ?_)
    refine lv_if_ne (tgt := 25) X.1 X.2.1 (dck_at da_X12_sits 8 rfl) rfl (fun c => ?_) (fun c => ?_)
    · have h := gI_neg h c
      refine lv_aload_n X.1 X.2.1 (dck_at da_X12_sits 13 rfl) rfl (lv_at hl 0 rfl) ?_
      refine gr_getR X G Y fk_RX12_25 clM_0 rfl (dck_at da_X12_sits 14 rfl) ?_
      refine lv_iload_n X.1 X.2.1 (dck_at da_X12_sits 15 rfl) rfl (lv_at hl 1 rfl) ?_
      obtain ⟨hin, h⟩ := gI_if h
      refine gr_iald X G Y clM_6 hin (dck_at da_X12_sits 16 rfl) ?_
      refine lv_istore_n (lv' := [(3, .int (s3.1 6 (a1).toNatClampNeg)), (0, .ref (ad 0)), (1, .int a1), (2, .int a2)]) X.1 X.2.1 (dck_at da_X12_sits 17 rfl) rfl hl (by decide) rfl (fun ls hl => ?_)
      refine lv_aload_n X.1 X.2.1 (dck_at da_X12_sits 18 rfl) rfl (lv_at hl 1 rfl) ?_
      refine gr_getR X G Y fk_RX12_25 clM_0 rfl (dck_at da_X12_sits 19 rfl) ?_
      refine lv_iload_n X.1 X.2.1 (dck_at da_X12_sits 20 rfl) rfl (lv_at hl 2 rfl) ?_
      refine lv_iload_n X.1 X.2.1 (dck_at da_X12_sits 21 rfl) rfl (lv_at hl 3 rfl) ?_
      obtain ⟨hin, h⟩ := gI_if h
      refine gr_iast X G Y clM_6 hin (dck_at da_X12_sits 22 rfl) (fun H locs Y => ?_)
      refine lv_iload_n X.1 X.2.1 (dck_at da_X12_sits 23 rfl) rfl (lv_at hl 0 rfl) ?_
      exact gr_iretO X Y h hr rfl hlk (dck_at da_X12_sits 24 rfl)
    · have h := gI_pos h c
      exact b19 s3 _ _ _ h Y (lv_sub hl [0] rfl)
set_option maxRecDepth 100000 in
set_option maxHeartbeats 4000000 in
theorem ok_m_type {l : Launch} {D : va_G} {cy : Nat → ClassId} {ad sa : Nat → Nat} {A : Nat → Prop} {F : Nat} {a1 : Int64} {a3 : Int32} {s0 : St} {ρ : Int32} {σ' : St} (h : m_type F a1 a3 s0 = some (ρ, σ')) : gMi l shM D cy ad sa A yX12_type cX12_type 5 (some .int) 3 [.ref (ad 0), .long a1, .int a3] s0 ρ σ' := by
  refine gM_of (by decide) (Nat.le_of_ble_eq_true rfl) ?_
  intro p e s m args below meth c ls X G Y hr hlk hl
  have hl : lv_has ls 5 [(0, .ref (ad 0)), (1, .long a1), (3, .int a3)] := hl
  have b86 : ∀ n : Nat, ∀ (x1 : Int64) (x4 : Int32) (s0 : St) (H : Heap) (locs : List Loc) (ls : Array Slot), m_type_L86 F  n x1 x4 s0 = some (ρ, σ') → gY shM D cy ad A s0 s H locs → lv_has ls 5 [(0, .ref (ad 0)), (1, .long x1), (4, .int x4)] → W p l e (grm 3) s m args below meth c H locs 0 0 (MQ below (va_Qi (fun (q : Int32) (_ : Unit) => q = ρ) (fun _ t => va_P D vwCl (gWl shM cy ad σ') t.heap) A) args s 0 0 A) (F0 m 86 ls []) := by
    intro n
    induction n with
    | zero => intro x1 x4 s0 H locs ls h Y hl; exact (gnone h).elim
    | succ n hk86 =>
      have e : m_type_L86 F  (n + 1) = m_type_L86b F  (m_type_L86 F  n) := rfl
      rw [e]; clear e
      generalize m_type_L86 F  n = k86 at hk86 ⊢
      intro x1 x4 s0 H locs ls h Y hl
      unfold m_type_L86b at h
      refine lv_iload X.1 X.2.1 (dck_at da_X12_type 46 rfl) (lv_at hl 2 rfl) ?_
      refine lv_if_lt (tgt := 128) X.1 X.2.1 (dck_at da_X12_type 47 rfl) rfl (fun c => ?_) (fun c => ?_)
      · have h := gI_pos h c
        refine lv_aload_n X.1 X.2.1 (dck_at da_X12_type 69 rfl) rfl (lv_at hl 0 rfl) ?_
        refine gr_getI X G Y fk_RX12_159 clM_0 rfl (dck_at da_X12_type 70 rfl) ?_
        exact gr_iretO X Y h hr rfl hlk (dck_at da_X12_type 71 rfl)
      · have h := gI_neg h c
        refine lv_aload_n X.1 X.2.1 (dck_at da_X12_type 48 rfl) rfl (lv_at hl 0 rfl) ?_
        refine gr_getR X G Y fk_RX12_28 clM_0 rfl (dck_at da_X12_type 49 rfl) ?_
        refine lv_aload_n X.1 X.2.1 (dck_at da_X12_type 50 rfl) rfl (lv_at hl 0 rfl) ?_
        refine gr_getI X G Y fk_RX12_159 clM_0 rfl (dck_at da_X12_type 51 rfl) ?_
        refine lv_lload_n X.1 X.2.1 (dck_at da_X12_type 52 rfl) rfl (lv_at hl 1 rfl) ?_
        refine lv_bipush X.1 X.2.1 (dck_at da_X12_type 53 rfl) kb_8 ?_
        refine lv_iload X.1 X.2.1 (dck_at da_X12_type 54 rfl) (lv_at hl 2 rfl) ?_
        refine lv_imul X.1 X.2.1 (dck_at da_X12_type 55 rfl) ?_
        refine lv_lshr (v := (x1) >>> (((8 : Int32) * x4).toInt64 &&& 63)) X.1 X.2.1 (dck_at da_X12_type 56 rfl) rfl ?_
        refine lv_ldc2 X.1 X.2.1 X.2.2.2.1 (X.2.2.2.2 _ wm_1333) (dck_at da_X12_type 57 rfl) ?_
        refine lv_land X.1 X.2.1 (dck_at da_X12_type 58 rfl) ?_
        refine lv_l2i (v := (((x1) >>> (((8 : Int32) * x4).toInt64 &&& 63)) &&& (255 : Int64)).toInt32) X.1 X.2.1 (dck_at da_X12_type 59 rfl) rfl ?_
        obtain ⟨hin, h⟩ := gI_if h
        refine gr_iast X G Y clM_7 hin (dck_at da_X12_type 60 rfl) (fun H locs Y => ?_)
        refine lv_aload_n X.1 X.2.1 (dck_at da_X12_type 61 rfl) rfl (lv_at hl 0 rfl) ?_
        refine lv_dup X.1 X.2.1 (dck_at da_X12_type 62 rfl) rfl ?_
        refine gr_getI X G Y fk_RX12_159 clM_0 rfl (dck_at da_X12_type 63 rfl) ?_
        refine lv_iconst X.1 X.2.1 (dck_at da_X12_type 64 rfl) ki_1 ?_
        refine lv_iadd X.1 X.2.1 (dck_at da_X12_type 65 rfl) ?_
        refine gr_putI X G Y fp_RX12_159 clM_0 rfl (dck_at da_X12_type 66 rfl) (fun H locs Y => ?_)
        refine lv_iinc (v := x4 + (-1 : Int32)) (lv' := [(4, .int (x4 + (-1 : Int32))), (0, .ref (ad 0)), (1, .long x1)]) X.1 X.2.1 (dck_at da_X12_type 67 rfl) hl (k := 2) rfl (congrArg (HAdd.hAdd _) ki_m1) (by decide) rfl (fun ls hl => ?_)
        refine lv_goto (tgt := 86) X.1 X.2.1 (dck_at da_X12_type 68 rfl) rfl ?_
        exact hk86 x1 (x4 + (-1 : Int32)) (sI (sI s0 7 (s0.1 0 7).toNatClampNeg ((((x1) >>> (((8 : Int32) * x4).toInt64 &&& 63)) &&& (255 : Int64)).toInt32)) 0 7 (((sI s0 7 (s0.1 0 7).toNatClampNeg ((((x1) >>> (((8 : Int32) * x4).toInt64 &&& 63)) &&& (255 : Int64)).toInt32)).1 0 7) + (1 : Int32))) _ _ _ h Y (lv_sub hl [1, 2, 0] rfl)
  have b21 : ∀ n : Nat, ∀ (x1 : Int64) (x3 : Int32) (x4 : Int32) (s0 : St) (H : Heap) (locs : List Loc) (ls : Array Slot), m_type_L21 F  n x1 x3 x4 s0 = some (ρ, σ') → gY shM D cy ad A s0 s H locs → lv_has ls 5 [(0, .ref (ad 0)), (1, .long x1), (3, .int x3), (4, .int x4)] → W p l e (grm 3) s m args below meth c H locs 0 0 (MQ below (va_Qi (fun (q : Int32) (_ : Unit) => q = ρ) (fun _ t => va_P D vwCl (gWl shM cy ad σ') t.heap) A) args s 0 0 A) (F0 m 21 ls []) := by
    intro n
    induction n with
    | zero => intro x1 x3 x4 s0 H locs ls h Y hl; exact (gnone h).elim
    | succ n hk21 =>
      have e : m_type_L21 F  (n + 1) = m_type_L21b F  (m_type_L21 F  n) := rfl
      rw [e]; clear e
      generalize m_type_L21 F  n = k21 at hk21 ⊢
      intro x1 x3 x4 s0 H locs ls h Y hl
      unfold m_type_L21b at h
      refine lv_iload X.1 X.2.1 (dck_at da_X12_type 12 rfl) (lv_at hl 3 rfl) ?_
      refine lv_iload_n X.1 X.2.1 (dck_at da_X12_type 13 rfl) rfl (lv_at hl 2 rfl) ?_
      refine lv_icmp_ge (tgt := 62) X.1 X.2.1 (dck_at da_X12_type 14 rfl) rfl (fun c => ?_) (fun c => ?_)
      · have h := gI_pos h c
        refine lv_aload_n X.1 X.2.1 (dck_at da_X12_type 32 rfl) rfl (lv_at hl 0 rfl) ?_
        refine gr_getI X G Y fk_RX12_159 clM_0 rfl (dck_at da_X12_type 33 rfl) ?_
        refine lv_iload_n X.1 X.2.1 (dck_at da_X12_type 34 rfl) rfl (lv_at hl 2 rfl) ?_
        refine lv_iadd X.1 X.2.1 (dck_at da_X12_type 35 rfl) ?_
        refine lv_sipush X.1 X.2.1 (dck_at da_X12_type 36 rfl) ks_160 ?_
        refine lv_icmp_le (tgt := 81) X.1 X.2.1 (dck_at da_X12_type 37 rfl) rfl (fun c => ?_) (fun c => ?_)
        · have h := gI_pos h c
          refine lv_iload_n X.1 X.2.1 (dck_at da_X12_type 42 rfl) rfl (lv_at hl 2 rfl) ?_
          refine lv_iconst X.1 X.2.1 (dck_at da_X12_type 43 rfl) ki_1 ?_
          refine lv_isub X.1 X.2.1 (dck_at da_X12_type 44 rfl) ?_
          refine lv_istore (lv' := [(4, .int (x3 - (1 : Int32))), (0, .ref (ad 0)), (1, .long x1), (3, .int x3)]) X.1 X.2.1 (dck_at da_X12_type 45 rfl) hl (by decide) rfl (fun ls hl => ?_)
          exact b86 F x1 (x3 - (1 : Int32)) s0 _ _ _ h Y (lv_sub hl [1, 2, 0] rfl)
        · have h := gI_neg h c
          refine lv_aload_n X.1 X.2.1 (dck_at da_X12_type 38 rfl) rfl (lv_at hl 0 rfl) ?_
          refine lv_bipush X.1 X.2.1 (dck_at da_X12_type 39 rfl) kb_m3 ?_
          obtain ⟨r1, s1, hc, h⟩ := gB2_some h
          refine gr_backi Y (gr_runV (as := [.int (-3 : Int32)]) (rest := []) X G Y (ok_m_tells hc) cv_RX12_130 clM_0 ⟨Nat.le_of_ble_eq_true rfl, Nat.le_of_ble_eq_true rfl⟩ rfl hl.1 (Nat.le_of_ble_eq_true rfl) (dck_at da_X12_type 40 rfl)) (fun H locs Y => ?_)
          exact gr_iretO X Y h hr rfl hlk (dck_at da_X12_type 41 rfl)
      · have h := gI_neg h c
        refine lv_lload_n X.1 X.2.1 (dck_at da_X12_type 15 rfl) rfl (lv_at hl 1 rfl) ?_
        refine lv_bipush X.1 X.2.1 (dck_at da_X12_type 16 rfl) kb_8 ?_
        refine lv_iload X.1 X.2.1 (dck_at da_X12_type 17 rfl) (lv_at hl 3 rfl) ?_
        refine lv_imul X.1 X.2.1 (dck_at da_X12_type 18 rfl) ?_
        refine lv_lshr (v := (x1) >>> (((8 : Int32) * x4).toInt64 &&& 63)) X.1 X.2.1 (dck_at da_X12_type 19 rfl) rfl ?_
        refine lv_ldc2 X.1 X.2.1 X.2.2.2.1 (X.2.2.2.2 _ wm_1333) (dck_at da_X12_type 20 rfl) ?_
        refine lv_land X.1 X.2.1 (dck_at da_X12_type 21 rfl) ?_
        refine lv_ldc2 X.1 X.2.1 X.2.2.2.1 (X.2.2.2.2 _ wm_1334) (dck_at da_X12_type 22 rfl) ?_
        refine lv_ldc2 X.1 X.2.1 X.2.2.2.1 (X.2.2.2.2 _ wm_1335) (dck_at da_X12_type 23 rfl) ?_
        obtain ⟨r2, s2, hc, h⟩ := gB2_some h
        refine gr_backi Y (gr_runS (as := [.long (((x1) >>> (((8 : Int32) * x4).toInt64 &&& 63)) &&& (255 : Int64)), .long (32 : Int64), .long (126 : Int64)]) (rest := []) X G Y (ok_m_in hc) cs_RX12_126 ⟨Nat.le_of_ble_eq_true rfl, Nat.le_of_ble_eq_true rfl⟩ rfl hl.1 (Nat.le_of_ble_eq_true rfl) (dck_at da_X12_type 24 rfl)) (fun H locs Y => ?_)
        refine lv_if_ne (tgt := 56) X.1 X.2.1 (dck_at da_X12_type 25 rfl) rfl (fun c => ?_) (fun c => ?_)
        · have h := gI_neg h c
          refine lv_iinc (v := x4 + (1 : Int32)) (lv' := [(4, .int (x4 + (1 : Int32))), (0, .ref (ad 0)), (1, .long x1), (3, .int x3)]) X.1 X.2.1 (dck_at da_X12_type 30 rfl) hl (k := 3) rfl (congrArg (HAdd.hAdd _) ki_1) (by decide) rfl (fun ls hl => ?_)
          refine lv_goto (tgt := 21) X.1 X.2.1 (dck_at da_X12_type 31 rfl) rfl ?_
          exact hk21 x1 x3 (x4 + (1 : Int32)) s2 _ _ _ h Y (lv_sub hl [1, 2, 3, 0] rfl)
        · have h := gI_pos h c
          refine lv_aload_n X.1 X.2.1 (dck_at da_X12_type 26 rfl) rfl (lv_at hl 0 rfl) ?_
          refine lv_iconst X.1 X.2.1 (dck_at da_X12_type 27 rfl) ki_m1 ?_
          obtain ⟨r3, s3, hc, h⟩ := gB2_some h
          refine gr_backi Y (gr_runV (as := [.int (-1 : Int32)]) (rest := []) X G Y (ok_m_tells hc) cv_RX12_130 clM_0 ⟨Nat.le_of_ble_eq_true rfl, Nat.le_of_ble_eq_true rfl⟩ rfl hl.1 (Nat.le_of_ble_eq_true rfl) (dck_at da_X12_type 28 rfl)) (fun H locs Y => ?_)
          exact gr_iretO X Y h hr rfl hlk (dck_at da_X12_type 29 rfl)
  unfold m_type at h
  refine lv_iload_n X.1 X.2.1 (dck_at da_X12_type 0 rfl) rfl (lv_at hl 2 rfl) ?_
  refine lv_i2l (v := (a3).toInt64) X.1 X.2.1 (dck_at da_X12_type 1 rfl) rfl ?_
  refine lv_lconst (v := 1) X.1 X.2.1 (dck_at da_X12_type 2 rfl) rfl ?_
  refine lv_ldc2 X.1 X.2.1 X.2.2.2.1 (X.2.2.2.2 _ wm_1280) (dck_at da_X12_type 3 rfl) ?_
  obtain ⟨r4, s4, hc, h⟩ := gB2_some h
  refine gr_backi Y (gr_runS (as := [.long ((a3).toInt64), .long (1 : Int64), .long (8 : Int64)]) (rest := []) X G Y (ok_m_in hc) cs_RX12_126 ⟨Nat.le_of_ble_eq_true rfl, Nat.le_of_ble_eq_true rfl⟩ rfl hl.1 (Nat.le_of_ble_eq_true rfl) (dck_at da_X12_type 4 rfl)) (fun H locs Y => ?_)
  refine lv_if_ne (tgt := 18) X.1 X.2.1 (dck_at da_X12_type 5 rfl) rfl (fun c => ?_) (fun c => ?_)
  · have h := gI_neg h c
    refine lv_iconst X.1 X.2.1 (dck_at da_X12_type 10 rfl) ki_0 ?_
    refine lv_istore (lv' := [(4, .int (0 : Int32)), (0, .ref (ad 0)), (1, .long a1), (3, .int a3)]) X.1 X.2.1 (dck_at da_X12_type 11 rfl) hl (by decide) rfl (fun ls hl => ?_)
    exact b21 F a1 a3 (0 : Int32) s4 _ _ _ h Y (lv_sub hl [1, 2, 3, 0] rfl)
  · have h := gI_pos h c
    refine lv_aload_n X.1 X.2.1 (dck_at da_X12_type 6 rfl) rfl (lv_at hl 0 rfl) ?_
    refine lv_iconst X.1 X.2.1 (dck_at da_X12_type 7 rfl) ki_m1 ?_
    obtain ⟨r5, s5, hc, h⟩ := gB2_some h
    refine gr_backi Y (gr_runV (as := [.int (-1 : Int32)]) (rest := []) X G Y (ok_m_tells hc) cv_RX12_130 clM_0 ⟨Nat.le_of_ble_eq_true rfl, Nat.le_of_ble_eq_true rfl⟩ rfl hl.1 (Nat.le_of_ble_eq_true rfl) (dck_at da_X12_type 8 rfl)) (fun H locs Y => ?_)
    exact gr_iretO X Y h hr rfl hlk (dck_at da_X12_type 9 rfl)
set_option maxRecDepth 100000 in
set_option maxHeartbeats 4000000 in
theorem ok_m_here {l : Launch} {D : va_G} {cy : Nat → ClassId} {ad sa : Nat → Nat} {A : Nat → Prop} {F : Nat}  {s0 : St} {ρ : Int32} {σ' : St} (h : m_here F s0 = some (ρ, σ')) : gMi l shM D cy ad sa A yX12_here cX12_here 1 (some .int) 1 [.ref (ad 0)] s0 ρ σ' := by
  refine gM_of (by decide) (Nat.le_of_ble_eq_true rfl) ?_
  intro p e s m args below meth c ls X G Y hr hlk hl
  have hl : lv_has ls 1 [(0, .ref (ad 0))] := hl
  have b38 : ∀  (s0 : St) (H : Heap) (locs : List Loc) (ls : Array Slot), m_here_J38 F  s0 = some (ρ, σ') → gY shM D cy ad A s0 s H locs → lv_has ls 1 [(0, .ref (ad 0))] → W p l e (grm 1) s m args below meth c H locs 0 0 (MQ below (va_Qi (fun (q : Int32) (_ : Unit) => q = ρ) (fun _ t => va_P D vwCl (gWl shM cy ad σ') t.heap) A) args s 0 0 A) (F0 m 38 ls []) := by
    intro s0 H locs ls h Y hl
    unfold m_here_J38 at h
    refine lv_aload_n X.1 X.2.1 (dck_at da_X12_here 19 rfl) rfl (lv_at hl 0 rfl) ?_
    refine gr_getI X G Y fk_RX12_162 clM_0 rfl (dck_at da_X12_here 20 rfl) ?_
    refine lv_aload_n X.1 X.2.1 (dck_at da_X12_here 21 rfl) rfl (lv_at hl 0 rfl) ?_
    refine gr_getI X G Y fk_RX12_159 clM_0 rfl (dck_at da_X12_here 22 rfl) ?_
    refine lv_icmp_ge (tgt := 61) X.1 X.2.1 (dck_at da_X12_here 23 rfl) rfl (fun c => ?_) (fun c => ?_)
    · have h := gI_pos h c
      refine lv_iconst X.1 X.2.1 (dck_at da_X12_here 30 rfl) ki_0 ?_
      exact gr_iretO X Y h hr rfl hlk (dck_at da_X12_here 31 rfl)
    · have h := gI_neg h c
      refine lv_aload_n X.1 X.2.1 (dck_at da_X12_here 24 rfl) rfl (lv_at hl 0 rfl) ?_
      refine gr_getR X G Y fk_RX12_28 clM_0 rfl (dck_at da_X12_here 25 rfl) ?_
      refine lv_aload_n X.1 X.2.1 (dck_at da_X12_here 26 rfl) rfl (lv_at hl 0 rfl) ?_
      refine gr_getI X G Y fk_RX12_162 clM_0 rfl (dck_at da_X12_here 27 rfl) ?_
      obtain ⟨hin, h⟩ := gI_if h
      refine gr_iald X G Y clM_7 hin (dck_at da_X12_here 28 rfl) ?_
      refine lv_goto (tgt := 62) X.1 X.2.1 (dck_at da_X12_here 29 rfl) rfl ?_
      exact gr_iretO X Y h hr rfl hlk (dck_at da_X12_here 31 rfl)
  have b0 : ∀ n : Nat, ∀  (s0 : St) (H : Heap) (locs : List Loc) (ls : Array Slot), m_here_L0 F  n s0 = some (ρ, σ') → gY shM D cy ad A s0 s H locs → lv_has ls 1 [(0, .ref (ad 0))] → W p l e (grm 1) s m args below meth c H locs 0 0 (MQ below (va_Qi (fun (q : Int32) (_ : Unit) => q = ρ) (fun _ t => va_P D vwCl (gWl shM cy ad σ') t.heap) A) args s 0 0 A) (F0 m 0 ls []) := by
    intro n
    induction n with
    | zero => intro s0 H locs ls h Y hl; exact (gnone h).elim
    | succ n hk0 =>
      have e : m_here_L0 F  (n + 1) = m_here_L0b F  (m_here_L0 F  n) := rfl
      rw [e]; clear e
      generalize m_here_L0 F  n = k0 at hk0 ⊢
      intro s0 H locs ls h Y hl
      unfold m_here_L0b at h
      refine lv_aload_n X.1 X.2.1 (dck_at da_X12_here 0 rfl) rfl (lv_at hl 0 rfl) ?_
      refine gr_getI X G Y fk_RX12_162 clM_0 rfl (dck_at da_X12_here 1 rfl) ?_
      refine lv_aload_n X.1 X.2.1 (dck_at da_X12_here 2 rfl) rfl (lv_at hl 0 rfl) ?_
      refine gr_getI X G Y fk_RX12_159 clM_0 rfl (dck_at da_X12_here 3 rfl) ?_
      refine lv_icmp_ge (tgt := 38) X.1 X.2.1 (dck_at da_X12_here 4 rfl) rfl (fun c => ?_) (fun c => ?_)
      · have h := gI_pos h c
        exact b38 s0 _ _ _ h Y (lv_sub hl [0] rfl)
      · have h := gI_neg h c
        refine lv_aload_n X.1 X.2.1 (dck_at da_X12_here 5 rfl) rfl (lv_at hl 0 rfl) ?_
        refine gr_getR X G Y fk_RX12_28 clM_0 rfl (dck_at da_X12_here 6 rfl) ?_
        refine lv_aload_n X.1 X.2.1 (dck_at da_X12_here 7 rfl) rfl (lv_at hl 0 rfl) ?_
        refine gr_getI X G Y fk_RX12_162 clM_0 rfl (dck_at da_X12_here 8 rfl) ?_
        obtain ⟨hin, h⟩ := gI_if h
        refine gr_iald X G Y clM_7 hin (dck_at da_X12_here 9 rfl) ?_
        refine lv_bipush X.1 X.2.1 (dck_at da_X12_here 10 rfl) kb_32 ?_
        refine lv_icmp_ne (tgt := 38) X.1 X.2.1 (dck_at da_X12_here 11 rfl) rfl (fun c => ?_) (fun c => ?_)
        · have h := gI_neg h c
          exact b38 s0 _ _ _ h Y (lv_sub hl [0] rfl)
        · have h := gI_pos h c
          refine lv_aload_n X.1 X.2.1 (dck_at da_X12_here 12 rfl) rfl (lv_at hl 0 rfl) ?_
          refine lv_dup X.1 X.2.1 (dck_at da_X12_here 13 rfl) rfl ?_
          refine gr_getI X G Y fk_RX12_162 clM_0 rfl (dck_at da_X12_here 14 rfl) ?_
          refine lv_iconst X.1 X.2.1 (dck_at da_X12_here 15 rfl) ki_1 ?_
          refine lv_iadd X.1 X.2.1 (dck_at da_X12_here 16 rfl) ?_
          refine gr_putI X G Y fp_RX12_162 clM_0 rfl (dck_at da_X12_here 17 rfl) (fun H locs Y => ?_)
          refine lv_goto (tgt := 0) X.1 X.2.1 (dck_at da_X12_here 18 rfl) rfl ?_
          exact hk0 (sI s0 0 8 ((s0.1 0 8) + (1 : Int32))) _ _ _ h Y (lv_sub hl [0] rfl)
  unfold m_here at h
  exact b0 F s0 _ _ _ h Y (lv_sub hl [0] rfl)
set_option maxRecDepth 100000 in
set_option maxHeartbeats 4000000 in
theorem ok_m_has {l : Launch} {D : va_G} {cy : Nat → ClassId} {ad sa : Nat → Nat} {A : Nat → Prop} {F : Nat} {a1 : Int32} {s0 : St} {ρ : Int32} {σ' : St} (h : m_has F a1 s0 = some (ρ, σ')) : gMi l shM D cy ad sa A yX12_has cX12_has 3 (some .boolean) 2 [.ref (ad 0), .int a1] s0 ρ σ' := by
  refine gM_of (by decide) (Nat.le_of_ble_eq_true rfl) ?_
  intro p e s m args below meth c ls X G Y hr hlk hl
  have hl : lv_has ls 3 [(0, .ref (ad 0)), (1, .int a1)] := hl
  have b35 : ∀ (x2 : Int32) (y1 : Int32) (y2 : Int32) (s0 : St) (H : Heap) (locs : List Loc) (ls : Array Slot), m_has_J35 F  x2 y1 y2 s0 = some (ρ, σ') → gY shM D cy ad A s0 s H locs → lv_has ls 3 [(2, .int x2)] → W p l e (grm 2) s m args below meth c H locs 0 0 (MQ below (va_Qi (fun (q : Int32) (_ : Unit) => q = ρ) (fun _ t => va_P D vwCl (gWl shM cy ad σ') t.heap) A) args s 0 0 A) (F0 m 35 ls [.int y2, .int y1, .ref (ad 0)]) := by
    intro x2 y1 y2 s0 H locs ls h Y hl
    unfold m_has_J35 at h
    refine lv_iadd X.1 X.2.1 (dck_at da_X12_has 19 rfl) ?_
    refine gr_putI X G Y fp_RX12_162 clM_0 rfl (dck_at da_X12_has 20 rfl) (fun H locs Y => ?_)
    refine lv_iload_n X.1 X.2.1 (dck_at da_X12_has 21 rfl) rfl (lv_at hl 0 rfl) ?_
    obtain ⟨hz, h⟩ := gI_if h
    exact gr_iretO X Y h hr (gz_nar hz) hlk (dck_at da_X12_has 22 rfl)
  have b20 : ∀ (y0 : Int32) (s0 : St) (H : Heap) (locs : List Loc) (ls : Array Slot), m_has_J20 F  y0 s0 = some (ρ, σ') → gY shM D cy ad A s0 s H locs → lv_has ls 3 [(0, .ref (ad 0))] → W p l e (grm 2) s m args below meth c H locs 0 0 (MQ below (va_Qi (fun (q : Int32) (_ : Unit) => q = ρ) (fun _ t => va_P D vwCl (gWl shM cy ad σ') t.heap) A) args s 0 0 A) (F0 m 20 ls [.int y0]) := by
    intro y0 s0 H locs ls h Y hl
    unfold m_has_J20 at h
    refine lv_istore_n (lv' := [(2, .int y0), (0, .ref (ad 0))]) X.1 X.2.1 (dck_at da_X12_has 10 rfl) rfl hl (by decide) rfl (fun ls hl => ?_)
    refine lv_aload_n X.1 X.2.1 (dck_at da_X12_has 11 rfl) rfl (lv_at hl 1 rfl) ?_
    refine lv_dup X.1 X.2.1 (dck_at da_X12_has 12 rfl) rfl ?_
    refine gr_getI X G Y fk_RX12_162 clM_0 rfl (dck_at da_X12_has 13 rfl) ?_
    refine lv_iload_n X.1 X.2.1 (dck_at da_X12_has 14 rfl) rfl (lv_at hl 0 rfl) ?_
    refine lv_if_eq (tgt := 34) X.1 X.2.1 (dck_at da_X12_has 15 rfl) rfl (fun c => ?_) (fun c => ?_)
    · have h := gI_pos h c
      refine lv_iconst X.1 X.2.1 (dck_at da_X12_has 18 rfl) ki_0 ?_
      exact b35 y0 (s0.1 0 8) (0 : Int32) s0 _ _ _ h Y (lv_sub hl [0] rfl)
    · have h := gI_neg h c
      refine lv_iconst X.1 X.2.1 (dck_at da_X12_has 16 rfl) ki_1 ?_
      refine lv_goto (tgt := 35) X.1 X.2.1 (dck_at da_X12_has 17 rfl) rfl ?_
      exact b35 y0 (s0.1 0 8) (1 : Int32) s0 _ _ _ h Y (lv_sub hl [0] rfl)
  have b19 : ∀  (s0 : St) (H : Heap) (locs : List Loc) (ls : Array Slot), m_has_J19 F  s0 = some (ρ, σ') → gY shM D cy ad A s0 s H locs → lv_has ls 3 [(0, .ref (ad 0))] → W p l e (grm 2) s m args below meth c H locs 0 0 (MQ below (va_Qi (fun (q : Int32) (_ : Unit) => q = ρ) (fun _ t => va_P D vwCl (gWl shM cy ad σ') t.heap) A) args s 0 0 A) (F0 m 19 ls []) := by
    intro s0 H locs ls h Y hl
    unfold m_has_J19 at h
    refine lv_iconst X.1 X.2.1 (dck_at da_X12_has 9 rfl) ki_0 ?_
    exact b20 (0 : Int32) s0 _ _ _ h Y (lv_sub hl [0] rfl)
  unfold m_has at h
  refine lv_aload_n X.1 X.2.1 (dck_at da_X12_has 0 rfl) rfl (lv_at hl 0 rfl) ?_
  refine gr_getI X G Y fk_RX12_165 clM_0 rfl (dck_at da_X12_has 1 rfl) ?_
  refine lv_if_ne (tgt := 19) X.1 X.2.1 (dck_at da_X12_has 2 rfl) rfl (fun c => ?_) (fun c => ?_)
  · have h := gI_neg h c
    exact b19 s0 _ _ _ h Y (lv_sub hl [0] rfl)
  · have h := gI_pos h c
    refine lv_aload_n X.1 X.2.1 (dck_at da_X12_has 3 rfl) rfl (lv_at hl 0 rfl) ?_
    obtain ⟨r1, s1, hc, h⟩ := gB2_some h
    refine gr_backi Y (gr_runV (as := []) (rest := []) X G Y (ok_m_here hc) cv_RX12_169 clM_0 ⟨Nat.le_of_ble_eq_true rfl, Nat.le_of_ble_eq_true rfl⟩ rfl hl.1 (Nat.le_of_ble_eq_true rfl) (dck_at da_X12_has 4 rfl)) (fun H locs Y => ?_)
    refine lv_iload_n X.1 X.2.1 (dck_at da_X12_has 5 rfl) rfl (lv_at hl 1 rfl) ?_
    refine lv_icmp_ne (tgt := 19) X.1 X.2.1 (dck_at da_X12_has 6 rfl) rfl (fun c => ?_) (fun c => ?_)
    · have h := gI_neg h c
      exact b19 s1 _ _ _ h Y (lv_sub hl [0] rfl)
    · have h := gI_pos h c
      refine lv_iconst X.1 X.2.1 (dck_at da_X12_has 7 rfl) ki_1 ?_
      refine lv_goto (tgt := 20) X.1 X.2.1 (dck_at da_X12_has 8 rfl) rfl ?_
      exact b20 (1 : Int32) s1 _ _ _ h Y (lv_sub hl [0] rfl)
set_option maxRecDepth 100000 in
set_option maxHeartbeats 4000000 in
theorem ok_m_kindOf {l : Launch} {D : va_G} {cy : Nat → ClassId} {ad sa : Nat → Nat} {A : Nat → Prop} {F : Nat} {a0 : Int32} {s0 : St} {ρ : Int32} {σ' : St} (h : m_kindOf F a0 s0 = some (ρ, σ')) : gMi l shM D cy ad sa A yX12_kindOf cX12_kindOf 1 (some .int) 1 [.int a0] s0 ρ σ' := by
  refine gM_of (by decide) (Nat.le_of_ble_eq_true rfl) ?_
  intro p e s m args below meth c ls X G Y hr hlk hl
  have hl : lv_has ls 1 [(0, .int a0)] := hl
  unfold m_kindOf at h
  refine lv_iload_n X.1 X.2.1 (dck_at da_X12_kindOf 0 rfl) rfl (lv_at hl 0 rfl) ?_
  by_cases c0 : a0 = (97 : Int32)
  · have h := gI_pos h c0
    refine lv_tableIn (tgt := 116) (off := 115) X.1 X.2.1 (dck_at da_X12_kindOf 1 rfl) (by rw [c0]; decide) (by rw [c0]; decide) (by rw [c0]; rfl) rfl ?_
    refine lv_iconst X.1 X.2.1 (dck_at da_X12_kindOf 10 rfl) ki_4 ?_
    exact gr_iretO X Y h hr rfl hlk (dck_at da_X12_kindOf 11 rfl)
  have h := gI_neg h c0
  by_cases c1 : a0 = (98 : Int32)
  · have h := gI_pos h c1
    refine lv_tableIn (tgt := 126) (off := 125) X.1 X.2.1 (dck_at da_X12_kindOf 1 rfl) (by rw [c1]; decide) (by rw [c1]; decide) (by rw [c1]; rfl) rfl ?_
    refine lv_bipush X.1 X.2.1 (dck_at da_X12_kindOf 18 rfl) kb_m4 ?_
    exact gr_iretO X Y h hr rfl hlk (dck_at da_X12_kindOf 19 rfl)
  have h := gI_neg h c1
  by_cases c2 : a0 = (99 : Int32)
  · have h := gI_pos h c2
    refine lv_tableIn (tgt := 126) (off := 125) X.1 X.2.1 (dck_at da_X12_kindOf 1 rfl) (by rw [c2]; decide) (by rw [c2]; decide) (by rw [c2]; rfl) rfl ?_
    refine lv_bipush X.1 X.2.1 (dck_at da_X12_kindOf 18 rfl) kb_m4 ?_
    exact gr_iretO X Y h hr rfl hlk (dck_at da_X12_kindOf 19 rfl)
  have h := gI_neg h c2
  by_cases c3 : a0 = (100 : Int32)
  · have h := gI_pos h c3
    refine lv_tableIn (tgt := 126) (off := 125) X.1 X.2.1 (dck_at da_X12_kindOf 1 rfl) (by rw [c3]; decide) (by rw [c3]; decide) (by rw [c3]; rfl) rfl ?_
    refine lv_bipush X.1 X.2.1 (dck_at da_X12_kindOf 18 rfl) kb_m4 ?_
    exact gr_iretO X Y h hr rfl hlk (dck_at da_X12_kindOf 19 rfl)
  have h := gI_neg h c3
  by_cases c4 : a0 = (101 : Int32)
  · have h := gI_pos h c4
    refine lv_tableIn (tgt := 123) (off := 122) X.1 X.2.1 (dck_at da_X12_kindOf 1 rfl) (by rw [c4]; decide) (by rw [c4]; decide) (by rw [c4]; rfl) rfl ?_
    refine lv_bipush X.1 X.2.1 (dck_at da_X12_kindOf 16 rfl) kb_7 ?_
    exact gr_iretO X Y h hr rfl hlk (dck_at da_X12_kindOf 17 rfl)
  have h := gI_neg h c4
  by_cases c5 : a0 = (102 : Int32)
  · have h := gI_pos h c5
    refine lv_tableIn (tgt := 126) (off := 125) X.1 X.2.1 (dck_at da_X12_kindOf 1 rfl) (by rw [c5]; decide) (by rw [c5]; decide) (by rw [c5]; rfl) rfl ?_
    refine lv_bipush X.1 X.2.1 (dck_at da_X12_kindOf 18 rfl) kb_m4 ?_
    exact gr_iretO X Y h hr rfl hlk (dck_at da_X12_kindOf 19 rfl)
  have h := gI_neg h c5
  by_cases c6 : a0 = (103 : Int32)
  · have h := gI_pos h c6
    refine lv_tableIn (tgt := 126) (off := 125) X.1 X.2.1 (dck_at da_X12_kindOf 1 rfl) (by rw [c6]; decide) (by rw [c6]; decide) (by rw [c6]; rfl) rfl ?_
    refine lv_bipush X.1 X.2.1 (dck_at da_X12_kindOf 18 rfl) kb_m4 ?_
    exact gr_iretO X Y h hr rfl hlk (dck_at da_X12_kindOf 19 rfl)
  have h := gI_neg h c6
  by_cases c7 : a0 = (104 : Int32)
  · have h := gI_pos h c7
    refine lv_tableIn (tgt := 118) (off := 117) X.1 X.2.1 (dck_at da_X12_kindOf 1 rfl) (by rw [c7]; decide) (by rw [c7]; decide) (by rw [c7]; rfl) rfl ?_
    refine lv_iconst X.1 X.2.1 (dck_at da_X12_kindOf 12 rfl) ki_5 ?_
    exact gr_iretO X Y h hr rfl hlk (dck_at da_X12_kindOf 13 rfl)
  have h := gI_neg h c7
  by_cases c8 : a0 = (105 : Int32)
  · have h := gI_pos h c8
    refine lv_tableIn (tgt := 126) (off := 125) X.1 X.2.1 (dck_at da_X12_kindOf 1 rfl) (by rw [c8]; decide) (by rw [c8]; decide) (by rw [c8]; rfl) rfl ?_
    refine lv_bipush X.1 X.2.1 (dck_at da_X12_kindOf 18 rfl) kb_m4 ?_
    exact gr_iretO X Y h hr rfl hlk (dck_at da_X12_kindOf 19 rfl)
  have h := gI_neg h c8
  by_cases c9 : a0 = (106 : Int32)
  · have h := gI_pos h c9
    refine lv_tableIn (tgt := 126) (off := 125) X.1 X.2.1 (dck_at da_X12_kindOf 1 rfl) (by rw [c9]; decide) (by rw [c9]; decide) (by rw [c9]; rfl) rfl ?_
    refine lv_bipush X.1 X.2.1 (dck_at da_X12_kindOf 18 rfl) kb_m4 ?_
    exact gr_iretO X Y h hr rfl hlk (dck_at da_X12_kindOf 19 rfl)
  have h := gI_neg h c9
  by_cases c10 : a0 = (107 : Int32)
  · have h := gI_pos h c10
    refine lv_tableIn (tgt := 126) (off := 125) X.1 X.2.1 (dck_at da_X12_kindOf 1 rfl) (by rw [c10]; decide) (by rw [c10]; decide) (by rw [c10]; rfl) rfl ?_
    refine lv_bipush X.1 X.2.1 (dck_at da_X12_kindOf 18 rfl) kb_m4 ?_
    exact gr_iretO X Y h hr rfl hlk (dck_at da_X12_kindOf 19 rfl)
  have h := gI_neg h c10
  by_cases c11 : a0 = (108 : Int32)
  · have h := gI_pos h c11
    refine lv_tableIn (tgt := 126) (off := 125) X.1 X.2.1 (dck_at da_X12_kindOf 1 rfl) (by rw [c11]; decide) (by rw [c11]; decide) (by rw [c11]; rfl) rfl ?_
    refine lv_bipush X.1 X.2.1 (dck_at da_X12_kindOf 18 rfl) kb_m4 ?_
    exact gr_iretO X Y h hr rfl hlk (dck_at da_X12_kindOf 19 rfl)
  have h := gI_neg h c11
  by_cases c12 : a0 = (109 : Int32)
  · have h := gI_pos h c12
    refine lv_tableIn (tgt := 114) (off := 113) X.1 X.2.1 (dck_at da_X12_kindOf 1 rfl) (by rw [c12]; decide) (by rw [c12]; decide) (by rw [c12]; rfl) rfl ?_
    refine lv_iconst X.1 X.2.1 (dck_at da_X12_kindOf 8 rfl) ki_3 ?_
    exact gr_iretO X Y h hr rfl hlk (dck_at da_X12_kindOf 9 rfl)
  have h := gI_neg h c12
  by_cases c13 : a0 = (110 : Int32)
  · have h := gI_pos h c13
    refine lv_tableIn (tgt := 126) (off := 125) X.1 X.2.1 (dck_at da_X12_kindOf 1 rfl) (by rw [c13]; decide) (by rw [c13]; decide) (by rw [c13]; rfl) rfl ?_
    refine lv_bipush X.1 X.2.1 (dck_at da_X12_kindOf 18 rfl) kb_m4 ?_
    exact gr_iretO X Y h hr rfl hlk (dck_at da_X12_kindOf 19 rfl)
  have h := gI_neg h c13
  by_cases c14 : a0 = (111 : Int32)
  · have h := gI_pos h c14
    refine lv_tableIn (tgt := 108) (off := 107) X.1 X.2.1 (dck_at da_X12_kindOf 1 rfl) (by rw [c14]; decide) (by rw [c14]; decide) (by rw [c14]; rfl) rfl ?_
    refine lv_iconst X.1 X.2.1 (dck_at da_X12_kindOf 2 rfl) ki_0 ?_
    exact gr_iretO X Y h hr rfl hlk (dck_at da_X12_kindOf 3 rfl)
  have h := gI_neg h c14
  by_cases c15 : a0 = (112 : Int32)
  · have h := gI_pos h c15
    refine lv_tableIn (tgt := 110) (off := 109) X.1 X.2.1 (dck_at da_X12_kindOf 1 rfl) (by rw [c15]; decide) (by rw [c15]; decide) (by rw [c15]; rfl) rfl ?_
    refine lv_iconst X.1 X.2.1 (dck_at da_X12_kindOf 4 rfl) ki_1 ?_
    exact gr_iretO X Y h hr rfl hlk (dck_at da_X12_kindOf 5 rfl)
  have h := gI_neg h c15
  by_cases c16 : a0 = (113 : Int32)
  · have h := gI_pos h c16
    refine lv_tableIn (tgt := 126) (off := 125) X.1 X.2.1 (dck_at da_X12_kindOf 1 rfl) (by rw [c16]; decide) (by rw [c16]; decide) (by rw [c16]; rfl) rfl ?_
    refine lv_bipush X.1 X.2.1 (dck_at da_X12_kindOf 18 rfl) kb_m4 ?_
    exact gr_iretO X Y h hr rfl hlk (dck_at da_X12_kindOf 19 rfl)
  have h := gI_neg h c16
  by_cases c17 : a0 = (114 : Int32)
  · have h := gI_pos h c17
    refine lv_tableIn (tgt := 126) (off := 125) X.1 X.2.1 (dck_at da_X12_kindOf 1 rfl) (by rw [c17]; decide) (by rw [c17]; decide) (by rw [c17]; rfl) rfl ?_
    refine lv_bipush X.1 X.2.1 (dck_at da_X12_kindOf 18 rfl) kb_m4 ?_
    exact gr_iretO X Y h hr rfl hlk (dck_at da_X12_kindOf 19 rfl)
  have h := gI_neg h c17
  by_cases c18 : a0 = (115 : Int32)
  · have h := gI_pos h c18
    refine lv_tableIn (tgt := 120) (off := 119) X.1 X.2.1 (dck_at da_X12_kindOf 1 rfl) (by rw [c18]; decide) (by rw [c18]; decide) (by rw [c18]; rfl) rfl ?_
    refine lv_bipush X.1 X.2.1 (dck_at da_X12_kindOf 14 rfl) kb_6 ?_
    exact gr_iretO X Y h hr rfl hlk (dck_at da_X12_kindOf 15 rfl)
  have h := gI_neg h c18
  by_cases c19 : a0 = (116 : Int32)
  · have h := gI_pos h c19
    refine lv_tableIn (tgt := 126) (off := 125) X.1 X.2.1 (dck_at da_X12_kindOf 1 rfl) (by rw [c19]; decide) (by rw [c19]; decide) (by rw [c19]; rfl) rfl ?_
    refine lv_bipush X.1 X.2.1 (dck_at da_X12_kindOf 18 rfl) kb_m4 ?_
    exact gr_iretO X Y h hr rfl hlk (dck_at da_X12_kindOf 19 rfl)
  have h := gI_neg h c19
  by_cases c20 : a0 = (117 : Int32)
  · have h := gI_pos h c20
    refine lv_tableIn (tgt := 126) (off := 125) X.1 X.2.1 (dck_at da_X12_kindOf 1 rfl) (by rw [c20]; decide) (by rw [c20]; decide) (by rw [c20]; rfl) rfl ?_
    refine lv_bipush X.1 X.2.1 (dck_at da_X12_kindOf 18 rfl) kb_m4 ?_
    exact gr_iretO X Y h hr rfl hlk (dck_at da_X12_kindOf 19 rfl)
  have h := gI_neg h c20
  by_cases c21 : a0 = (118 : Int32)
  · have h := gI_pos h c21
    refine lv_tableIn (tgt := 126) (off := 125) X.1 X.2.1 (dck_at da_X12_kindOf 1 rfl) (by rw [c21]; decide) (by rw [c21]; decide) (by rw [c21]; rfl) rfl ?_
    refine lv_bipush X.1 X.2.1 (dck_at da_X12_kindOf 18 rfl) kb_m4 ?_
    exact gr_iretO X Y h hr rfl hlk (dck_at da_X12_kindOf 19 rfl)
  have h := gI_neg h c21
  by_cases c22 : a0 = (119 : Int32)
  · have h := gI_pos h c22
    refine lv_tableIn (tgt := 112) (off := 111) X.1 X.2.1 (dck_at da_X12_kindOf 1 rfl) (by rw [c22]; decide) (by rw [c22]; decide) (by rw [c22]; rfl) rfl ?_
    refine lv_iconst X.1 X.2.1 (dck_at da_X12_kindOf 6 rfl) ki_2 ?_
    exact gr_iretO X Y h hr rfl hlk (dck_at da_X12_kindOf 7 rfl)
  have h := gI_neg h c22
  refine lv_tableOut (tgt := 126) X.1 X.2.1 (dck_at da_X12_kindOf 1 rfl) (by have t0 := lv_neT (a := 97) c0 rfl; have t1 := lv_neT (a := 98) c1 rfl; have t2 := lv_neT (a := 99) c2 rfl; have t3 := lv_neT (a := 100) c3 rfl; have t4 := lv_neT (a := 101) c4 rfl; have t5 := lv_neT (a := 102) c5 rfl; have t6 := lv_neT (a := 103) c6 rfl; have t7 := lv_neT (a := 104) c7 rfl; have t8 := lv_neT (a := 105) c8 rfl; have t9 := lv_neT (a := 106) c9 rfl; have t10 := lv_neT (a := 107) c10 rfl; have t11 := lv_neT (a := 108) c11 rfl; have t12 := lv_neT (a := 109) c12 rfl; have t13 := lv_neT (a := 110) c13 rfl; have t14 := lv_neT (a := 111) c14 rfl; have t15 := lv_neT (a := 112) c15 rfl; have t16 := lv_neT (a := 113) c16 rfl; have t17 := lv_neT (a := 114) c17 rfl; have t18 := lv_neT (a := 115) c18 rfl; have t19 := lv_neT (a := 116) c19 rfl; have t20 := lv_neT (a := 117) c20 rfl; have t21 := lv_neT (a := 118) c21 rfl; have t22 := lv_neT (a := 119) c22 rfl; omega) rfl ?_
  refine lv_bipush X.1 X.2.1 (dck_at da_X12_kindOf 18 rfl) kb_m4 ?_
  exact gr_iretO X Y h hr rfl hlk (dck_at da_X12_kindOf 19 rfl)
set_option maxRecDepth 100000 in
set_option maxHeartbeats 4000000 in
theorem ok_m_row {l : Launch} {D : va_G} {cy : Nat → ClassId} {ad sa : Nat → Nat} {A : Nat → Prop} {F : Nat} {a1 : Int32} {s0 : St} {ρ : Int32} {σ' : St} (h : m_row F a1 s0 = some (ρ, σ')) : gMi l shM D cy ad sa A yX12_row cX12_row 7 (some .int) 2 [.ref (ad 0), .int a1] s0 ρ σ' := by
  refine gM_of (by decide) (Nat.le_of_ble_eq_true rfl) ?_
  intro p e s m args below meth c ls X G Y hr hlk hl
  have hl : lv_has ls 7 [(0, .ref (ad 0)), (1, .int a1)] := hl
  have b4 : ∀ n : Nat, ∀ (x1 : Int32) (x2 : Int32) (x3 : Int32) (s0 : St) (H : Heap) (locs : List Loc) (ls : Array Slot), m_row_L4 F  n x1 x2 x3 s0 = some (ρ, σ') → gY shM D cy ad A s0 s H locs → lv_has ls 7 [(0, .ref (ad 0)), (1, .int x1), (2, .int x2), (3, .int x3)] → W p l e (grm 2) s m args below meth c H locs 0 0 (MQ below (va_Qi (fun (q : Int32) (_ : Unit) => q = ρ) (fun _ t => va_P D vwCl (gWl shM cy ad σ') t.heap) A) args s 0 0 A) (F0 m 4 ls []) := by
    intro n
    induction n with
    | zero => intro x1 x2 x3 s0 H locs ls h Y hl; exact (gnone h).elim
    | succ n hk4 =>
      have e : m_row_L4 F  (n + 1) = m_row_L4b F  (m_row_L4 F  n) := rfl
      rw [e]; clear e
      generalize m_row_L4 F  n = k4 at hk4 ⊢
      have b190 : ∀ (x1 : Int32) (x2 : Int32) (y0 : Int32) (s0 : St) (H : Heap) (locs : List Loc) (ls : Array Slot), m_row_J190 F k4 x1 x2 y0 s0 = some (ρ, σ') → gY shM D cy ad A s0 s H locs → lv_has ls 7 [(0, .ref (ad 0)), (1, .int x1), (2, .int x2)] → W p l e (grm 2) s m args below meth c H locs 0 0 (MQ below (va_Qi (fun (q : Int32) (_ : Unit) => q = ρ) (fun _ t => va_P D vwCl (gWl shM cy ad σ') t.heap) A) args s 0 0 A) (F0 m 190 ls [.int y0]) := by
        intro x1 x2 y0 s0 H locs ls h Y hl
        unfold m_row_J190 at h
        refine lv_istore_n (lv' := [(3, .int y0), (0, .ref (ad 0)), (1, .int x1), (2, .int x2)]) X.1 X.2.1 (dck_at da_X12_row 97 rfl) rfl hl (by decide) rfl (fun ls hl => ?_)
        refine lv_goto (tgt := 4) X.1 X.2.1 (dck_at da_X12_row 98 rfl) rfl ?_
        exact hk4 x1 x2 y0 s0 _ _ _ h Y (lv_sub hl [1, 2, 3, 0] rfl)
      have b189 : ∀ (x1 : Int32) (x2 : Int32) (s0 : St) (H : Heap) (locs : List Loc) (ls : Array Slot), m_row_J189 F k4 x1 x2 s0 = some (ρ, σ') → gY shM D cy ad A s0 s H locs → lv_has ls 7 [(0, .ref (ad 0)), (1, .int x1), (2, .int x2)] → W p l e (grm 2) s m args below meth c H locs 0 0 (MQ below (va_Qi (fun (q : Int32) (_ : Unit) => q = ρ) (fun _ t => va_P D vwCl (gWl shM cy ad σ') t.heap) A) args s 0 0 A) (F0 m 189 ls []) := by
        intro x1 x2 s0 H locs ls h Y hl
        unfold m_row_J189 at h
        refine lv_iconst X.1 X.2.1 (dck_at da_X12_row 96 rfl) ki_0 ?_
        exact b190 x1 x2 (0 : Int32) s0 _ _ _ h Y (lv_sub hl [0, 1, 2] rfl)
      have b168 : ∀ (x1 : Int32) (x2 : Int32) (s0 : St) (H : Heap) (locs : List Loc) (ls : Array Slot), m_row_J168 F k4 x1 x2 s0 = some (ρ, σ') → gY shM D cy ad A s0 s H locs → lv_has ls 7 [(0, .ref (ad 0)), (1, .int x1), (2, .int x2)] → W p l e (grm 2) s m args below meth c H locs 0 0 (MQ below (va_Qi (fun (q : Int32) (_ : Unit) => q = ρ) (fun _ t => va_P D vwCl (gWl shM cy ad σ') t.heap) A) args s 0 0 A) (F0 m 168 ls []) := by
        intro x1 x2 s0 H locs ls h Y hl
        unfold m_row_J168 at h
        refine lv_aload_n X.1 X.2.1 (dck_at da_X12_row 87 rfl) rfl (lv_at hl 0 rfl) ?_
        refine gr_getI X G Y fk_RX12_165 clM_0 rfl (dck_at da_X12_row 88 rfl) ?_
        refine lv_if_ne (tgt := 189) X.1 X.2.1 (dck_at da_X12_row 89 rfl) rfl (fun c => ?_) (fun c => ?_)
        · have h := gI_neg h c
          exact b189 x1 x2 s0 _ _ _ h Y (lv_sub hl [0, 1, 2] rfl)
        · have h := gI_pos h c
          refine lv_aload_n X.1 X.2.1 (dck_at da_X12_row 90 rfl) rfl (lv_at hl 0 rfl) ?_
          obtain ⟨r1, s1, hc, h⟩ := gB2_some h
          refine gr_backi Y (gr_runV (as := []) (rest := []) X G Y (ok_m_here hc) cv_RX12_169 clM_0 ⟨Nat.le_of_ble_eq_true rfl, Nat.le_of_ble_eq_true rfl⟩ rfl hl.1 (Nat.le_of_ble_eq_true rfl) (dck_at da_X12_row 91 rfl)) (fun H locs Y => ?_)
          obtain ⟨r2, s2, hc, h⟩ := gB2_some h
          refine gr_backi Y (gr_runS (as := [.int r1]) (rest := []) X G Y (ok_m_kindOf hc) cs_RX12_173 ⟨Nat.le_of_ble_eq_true rfl, Nat.le_of_ble_eq_true rfl⟩ rfl hl.1 (Nat.le_of_ble_eq_true rfl) (dck_at da_X12_row 92 rfl)) (fun H locs Y => ?_)
          refine lv_if_lt (tgt := 189) X.1 X.2.1 (dck_at da_X12_row 93 rfl) rfl (fun c => ?_) (fun c => ?_)
          · have h := gI_pos h c
            exact b189 x1 x2 s2 _ _ _ h Y (lv_sub hl [0, 1, 2] rfl)
          · have h := gI_neg h c
            refine lv_iconst X.1 X.2.1 (dck_at da_X12_row 94 rfl) ki_1 ?_
            refine lv_goto (tgt := 190) X.1 X.2.1 (dck_at da_X12_row 95 rfl) rfl ?_
            exact b190 x1 x2 (1 : Int32) s2 _ _ _ h Y (lv_sub hl [0, 1, 2] rfl)
      have b132 : ∀ n : Nat, ∀ (x1 : Int32) (x2 : Int32) (x4 : Int32) (x5 : Int32) (x6 : Int32) (s0 : St) (H : Heap) (locs : List Loc) (ls : Array Slot), m_row_L132 F k4 n x1 x2 x4 x5 x6 s0 = some (ρ, σ') → gY shM D cy ad A s0 s H locs → lv_has ls 7 [(0, .ref (ad 0)), (1, .int x1), (2, .int x2), (4, .int x4), (5, .int x5), (6, .int x6)] → W p l e (grm 2) s m args below meth c H locs 0 0 (MQ below (va_Qi (fun (q : Int32) (_ : Unit) => q = ρ) (fun _ t => va_P D vwCl (gWl shM cy ad σ') t.heap) A) args s 0 0 A) (F0 m 132 ls []) := by
        intro n
        induction n with
        | zero => intro x1 x2 x4 x5 x6 s0 H locs ls h Y hl; exact (gnone h).elim
        | succ n hk132 =>
          have e : m_row_L132 F k4 (n + 1) = m_row_L132b F k4 (m_row_L132 F k4 n) := rfl
          rw [e]; clear e
          generalize m_row_L132 F k4 n = k132 at hk132 ⊢
          intro x1 x2 x4 x5 x6 s0 H locs ls h Y hl
          unfold m_row_L132b at h
          refine lv_iload X.1 X.2.1 (dck_at da_X12_row 69 rfl) (lv_at hl 5 rfl) ?_
          refine lv_iload X.1 X.2.1 (dck_at da_X12_row 70 rfl) (lv_at hl 4 rfl) ?_
          refine lv_icmp_ge (tgt := 168) X.1 X.2.1 (dck_at da_X12_row 71 rfl) rfl (fun c => ?_) (fun c => ?_)
          · have h := gI_pos h c
            exact b168 x1 x2 s0 _ _ _ h Y (lv_sub hl [0, 1, 2] rfl)
          · have h := gI_neg h c
            refine lv_aload_n X.1 X.2.1 (dck_at da_X12_row 72 rfl) rfl (lv_at hl 0 rfl) ?_
            refine gr_getI X G Y fk_RX12_165 clM_0 rfl (dck_at da_X12_row 73 rfl) ?_
            refine lv_if_ne (tgt := 168) X.1 X.2.1 (dck_at da_X12_row 74 rfl) rfl (fun c => ?_) (fun c => ?_)
            · have h := gI_neg h c
              exact b168 x1 x2 s0 _ _ _ h Y (lv_sub hl [0, 1, 2] rfl)
            · have h := gI_pos h c
              refine lv_aload_n X.1 X.2.1 (dck_at da_X12_row 75 rfl) rfl (lv_at hl 0 rfl) ?_
              refine gr_getR X G Y fk_RX12_31 clM_0 rfl (dck_at da_X12_row 76 rfl) ?_
              refine lv_bipush X.1 X.2.1 (dck_at da_X12_row 77 rfl) kb_12 ?_
              refine lv_iload_n X.1 X.2.1 (dck_at da_X12_row 78 rfl) rfl (lv_at hl 1 rfl) ?_
              refine lv_imul X.1 X.2.1 (dck_at da_X12_row 79 rfl) ?_
              refine lv_iload_n X.1 X.2.1 (dck_at da_X12_row 80 rfl) rfl (lv_at hl 2 rfl) ?_
              refine lv_iadd X.1 X.2.1 (dck_at da_X12_row 81 rfl) ?_
              refine lv_iload X.1 X.2.1 (dck_at da_X12_row 82 rfl) (lv_at hl 3 rfl) ?_
              obtain ⟨hin, h⟩ := gI_if h
              refine gr_iast X G Y clM_8 hin (dck_at da_X12_row 83 rfl) (fun H locs Y => ?_)
              refine lv_iinc (v := x2 + (1 : Int32)) (lv' := [(2, .int (x2 + (1 : Int32))), (0, .ref (ad 0)), (1, .int x1), (4, .int x4), (5, .int x5), (6, .int x6)]) X.1 X.2.1 (dck_at da_X12_row 84 rfl) hl (k := 2) rfl (congrArg (HAdd.hAdd _) ki_1) (by decide) rfl (fun ls hl => ?_)
              refine lv_iinc (v := x6 + (1 : Int32)) (lv' := [(6, .int (x6 + (1 : Int32))), (2, .int (x2 + (1 : Int32))), (0, .ref (ad 0)), (1, .int x1), (4, .int x4), (5, .int x5)]) X.1 X.2.1 (dck_at da_X12_row 85 rfl) hl (k := 5) rfl (congrArg (HAdd.hAdd _) ki_1) (by decide) rfl (fun ls hl => ?_)
              refine lv_goto (tgt := 132) X.1 X.2.1 (dck_at da_X12_row 86 rfl) rfl ?_
              exact hk132 x1 (x2 + (1 : Int32)) x4 x5 (x6 + (1 : Int32)) (sI s0 8 (((12 : Int32) * x1) + x2).toNatClampNeg x4) _ _ _ h Y (lv_sub hl [2, 3, 1, 4, 5, 0] rfl)
      have b129 : ∀ (x1 : Int32) (x2 : Int32) (x4 : Int32) (x5 : Int32) (s0 : St) (H : Heap) (locs : List Loc) (ls : Array Slot), m_row_J129 F k4 x1 x2 x4 x5 s0 = some (ρ, σ') → gY shM D cy ad A s0 s H locs → lv_has ls 7 [(0, .ref (ad 0)), (1, .int x1), (2, .int x2), (4, .int x4), (5, .int x5)] → W p l e (grm 2) s m args below meth c H locs 0 0 (MQ below (va_Qi (fun (q : Int32) (_ : Unit) => q = ρ) (fun _ t => va_P D vwCl (gWl shM cy ad σ') t.heap) A) args s 0 0 A) (F0 m 129 ls []) := by
        intro x1 x2 x4 x5 s0 H locs ls h Y hl
        unfold m_row_J129 at h
        refine lv_iconst X.1 X.2.1 (dck_at da_X12_row 67 rfl) ki_0 ?_
        refine lv_istore (lv' := [(6, .int (0 : Int32)), (0, .ref (ad 0)), (1, .int x1), (2, .int x2), (4, .int x4), (5, .int x5)]) X.1 X.2.1 (dck_at da_X12_row 68 rfl) hl (by decide) rfl (fun ls hl => ?_)
        exact b132 F x1 x2 x4 x5 (0 : Int32) s0 _ _ _ h Y (lv_sub hl [1, 2, 3, 4, 5, 0] rfl)
      have b125 : ∀ (x1 : Int32) (x2 : Int32) (x4 : Int32) (x5 : Int32) (y1 : Int32) (y2 : Int32) (s0 : St) (H : Heap) (locs : List Loc) (ls : Array Slot), m_row_J125 F k4 x1 x2 x4 x5 y1 y2 s0 = some (ρ, σ') → gY shM D cy ad A s0 s H locs → lv_has ls 7 [(0, .ref (ad 0)), (1, .int x1), (2, .int x2), (4, .int x4), (5, .int x5)] → W p l e (grm 2) s m args below meth c H locs 0 0 (MQ below (va_Qi (fun (q : Int32) (_ : Unit) => q = ρ) (fun _ t => va_P D vwCl (gWl shM cy ad σ') t.heap) A) args s 0 0 A) (F0 m 125 ls [.int y2, .int y1, .ref (ad 0)]) := by
        intro x1 x2 x4 x5 y1 y2 s0 H locs ls h Y hl
        unfold m_row_J125 at h
        refine lv_iadd X.1 X.2.1 (dck_at da_X12_row 65 rfl) ?_
        refine gr_putI X G Y fp_RX12_162 clM_0 rfl (dck_at da_X12_row 66 rfl) (fun H locs Y => ?_)
        exact b129 x1 x2 x4 x5 (sI s0 0 8 (y1 + y2)) _ _ _ h Y (lv_sub hl [0, 1, 2, 3, 4] rfl)
      have b105 : ∀ (x1 : Int32) (x2 : Int32) (x4 : Int32) (x5 : Int32) (y1 : Int32) (s0 : St) (H : Heap) (locs : List Loc) (ls : Array Slot), m_row_J105 F k4 x1 x2 x4 x5 y1 s0 = some (ρ, σ') → gY shM D cy ad A s0 s H locs → lv_has ls 7 [(0, .ref (ad 0)), (1, .int x1), (2, .int x2), (4, .int x4), (5, .int x5)] → W p l e (grm 2) s m args below meth c H locs 0 0 (MQ below (va_Qi (fun (q : Int32) (_ : Unit) => q = ρ) (fun _ t => va_P D vwCl (gWl shM cy ad σ') t.heap) A) args s 0 0 A) (F0 m 105 ls [.int y1, .ref (ad 0)]) := by
        intro x1 x2 x4 x5 y1 s0 H locs ls h Y hl
        unfold m_row_J105 at h
        obtain ⟨hz, h⟩ := gI_if h
        refine gr_putZ X G Y hz fp_RX12_165 clM_0 rfl (dck_at da_X12_row 55 rfl) (fun H locs Y => ?_)
        refine lv_aload_n X.1 X.2.1 (dck_at da_X12_row 56 rfl) rfl (lv_at hl 0 rfl) ?_
        refine lv_dup X.1 X.2.1 (dck_at da_X12_row 57 rfl) rfl ?_
        refine gr_getI X G Y fk_RX12_162 clM_0 rfl (dck_at da_X12_row 58 rfl) ?_
        refine lv_aload_n X.1 X.2.1 (dck_at da_X12_row 59 rfl) rfl (lv_at hl 0 rfl) ?_
        refine gr_getI X G Y fk_RX12_165 clM_0 rfl (dck_at da_X12_row 60 rfl) ?_
        refine lv_if_eq (tgt := 124) X.1 X.2.1 (dck_at da_X12_row 61 rfl) rfl (fun c => ?_) (fun c => ?_)
        · have h := gI_pos h c
          refine lv_iconst X.1 X.2.1 (dck_at da_X12_row 64 rfl) ki_1 ?_
          exact b125 x1 x2 x4 x5 ((sI s0 0 9 y1).1 0 8) (1 : Int32) (sI s0 0 9 y1) _ _ _ h Y (lv_sub hl [0, 1, 2, 3, 4] rfl)
        · have h := gI_neg h c
          refine lv_iconst X.1 X.2.1 (dck_at da_X12_row 62 rfl) ki_0 ?_
          refine lv_goto (tgt := 125) X.1 X.2.1 (dck_at da_X12_row 63 rfl) rfl ?_
          exact b125 x1 x2 x4 x5 ((sI s0 0 9 y1).1 0 8) (0 : Int32) (sI s0 0 9 y1) _ _ _ h Y (lv_sub hl [0, 1, 2, 3, 4] rfl)
      have b41 : ∀ (x1 : Int32) (x2 : Int32) (x4 : Int32) (y1 : Int32) (s0 : St) (H : Heap) (locs : List Loc) (ls : Array Slot), m_row_J41 F k4 x1 x2 x4 y1 s0 = some (ρ, σ') → gY shM D cy ad A s0 s H locs → lv_has ls 7 [(0, .ref (ad 0)), (1, .int x1), (2, .int x2), (4, .int x4)] → W p l e (grm 2) s m args below meth c H locs 0 0 (MQ below (va_Qi (fun (q : Int32) (_ : Unit) => q = ρ) (fun _ t => va_P D vwCl (gWl shM cy ad σ') t.heap) A) args s 0 0 A) (F0 m 41 ls [.int y1, .ref (ad 0)]) := by
        intro x1 x2 x4 y1 s0 H locs ls h Y hl
        unfold m_row_J41 at h
        obtain ⟨hz, h⟩ := gI_if h
        refine gr_putZ X G Y hz fp_RX12_165 clM_0 rfl (dck_at da_X12_row 22 rfl) (fun H locs Y => ?_)
        refine lv_aload_n X.1 X.2.1 (dck_at da_X12_row 23 rfl) rfl (lv_at hl 0 rfl) ?_
        refine gr_getI X G Y fk_RX12_165 clM_0 rfl (dck_at da_X12_row 24 rfl) ?_
        refine lv_if_ne (tgt := 168) X.1 X.2.1 (dck_at da_X12_row 25 rfl) rfl (fun c => ?_) (fun c => ?_)
        · have h := gI_neg h c
          exact b168 x1 x2 (sI s0 0 9 y1) _ _ _ h Y (lv_sub hl [0, 1, 2] rfl)
        · have h := gI_pos h c
          refine lv_aload_n X.1 X.2.1 (dck_at da_X12_row 26 rfl) rfl (lv_at hl 0 rfl) ?_
          refine lv_dup X.1 X.2.1 (dck_at da_X12_row 27 rfl) rfl ?_
          refine gr_getI X G Y fk_RX12_162 clM_0 rfl (dck_at da_X12_row 28 rfl) ?_
          refine lv_iconst X.1 X.2.1 (dck_at da_X12_row 29 rfl) ki_1 ?_
          refine lv_iadd X.1 X.2.1 (dck_at da_X12_row 30 rfl) ?_
          refine gr_putI X G Y fp_RX12_162 clM_0 rfl (dck_at da_X12_row 31 rfl) (fun H locs Y => ?_)
          refine lv_iconst X.1 X.2.1 (dck_at da_X12_row 32 rfl) ki_1 ?_
          refine lv_istore (lv' := [(5, .int (1 : Int32)), (0, .ref (ad 0)), (1, .int x1), (2, .int x2), (4, .int x4)]) X.1 X.2.1 (dck_at da_X12_row 33 rfl) hl (by decide) rfl (fun ls hl => ?_)
          refine lv_aload_n X.1 X.2.1 (dck_at da_X12_row 34 rfl) rfl (lv_at hl 1 rfl) ?_
          obtain ⟨r3, s3, hc, h⟩ := gB2_some h
          refine gr_backi Y (gr_runV (as := []) (rest := []) X G Y (ok_m_here hc) cv_RX12_169 clM_0 ⟨Nat.le_of_ble_eq_true rfl, Nat.le_of_ble_eq_true rfl⟩ rfl hl.1 (Nat.le_of_ble_eq_true rfl) (dck_at da_X12_row 35 rfl)) (fun H locs Y => ?_)
          refine lv_i2l (v := (r3).toInt64) X.1 X.2.1 (dck_at da_X12_row 36 rfl) rfl ?_
          refine lv_ldc2 X.1 X.2.1 X.2.2.2.1 (X.2.2.2.2 _ wm_1351) (dck_at da_X12_row 37 rfl) ?_
          refine lv_ldc2 X.1 X.2.1 X.2.2.2.1 (X.2.2.2.2 _ wm_1352) (dck_at da_X12_row 38 rfl) ?_
          obtain ⟨r4, s4, hc, h⟩ := gB2_some h
          refine gr_backi Y (gr_runS (as := [.long ((r3).toInt64), .long (49 : Int64), .long (57 : Int64)]) (rest := []) X G Y (ok_m_in hc) cs_RX12_126 ⟨Nat.le_of_ble_eq_true rfl, Nat.le_of_ble_eq_true rfl⟩ rfl hl.1 (Nat.le_of_ble_eq_true rfl) (dck_at da_X12_row 39 rfl)) (fun H locs Y => ?_)
          refine lv_if_eq (tgt := 129) X.1 X.2.1 (dck_at da_X12_row 40 rfl) rfl (fun c => ?_) (fun c => ?_)
          · have h := gI_pos h c
            exact b129 x1 x2 x4 (1 : Int32) s4 _ _ _ h Y (lv_sub hl [1, 2, 3, 4, 0] rfl)
          · have h := gI_neg h c
            refine lv_aload_n X.1 X.2.1 (dck_at da_X12_row 41 rfl) rfl (lv_at hl 1 rfl) ?_
            obtain ⟨r5, s5, hc, h⟩ := gB2_some h
            refine gr_backi Y (gr_runV (as := []) (rest := []) X G Y (ok_m_here hc) cv_RX12_169 clM_0 ⟨Nat.le_of_ble_eq_true rfl, Nat.le_of_ble_eq_true rfl⟩ rfl hl.1 (Nat.le_of_ble_eq_true rfl) (dck_at da_X12_row 42 rfl)) (fun H locs Y => ?_)
            refine lv_bipush X.1 X.2.1 (dck_at da_X12_row 43 rfl) kb_48 ?_
            refine lv_isub X.1 X.2.1 (dck_at da_X12_row 44 rfl) ?_
            refine lv_istore (lv' := [(5, .int (r5 - (48 : Int32))), (0, .ref (ad 0)), (1, .int x1), (2, .int x2), (4, .int x4)]) X.1 X.2.1 (dck_at da_X12_row 45 rfl) hl (by decide) rfl (fun ls hl => ?_)
            refine lv_aload_n X.1 X.2.1 (dck_at da_X12_row 46 rfl) rfl (lv_at hl 1 rfl) ?_
            refine lv_iload_n X.1 X.2.1 (dck_at da_X12_row 47 rfl) rfl (lv_at hl 3 rfl) ?_
            refine lv_iload X.1 X.2.1 (dck_at da_X12_row 48 rfl) (lv_at hl 0 rfl) ?_
            refine lv_iadd X.1 X.2.1 (dck_at da_X12_row 49 rfl) ?_
            refine lv_bipush X.1 X.2.1 (dck_at da_X12_row 50 rfl) kb_12 ?_
            refine lv_icmp_le (tgt := 104) X.1 X.2.1 (dck_at da_X12_row 51 rfl) rfl (fun c => ?_) (fun c => ?_)
            · have h := gI_pos h c
              refine lv_iconst X.1 X.2.1 (dck_at da_X12_row 54 rfl) ki_0 ?_
              exact b105 x1 x2 x4 (r5 - (48 : Int32)) (0 : Int32) s5 _ _ _ h Y (lv_sub hl [1, 2, 3, 4, 0] rfl)
            · have h := gI_neg h c
              refine lv_iconst X.1 X.2.1 (dck_at da_X12_row 52 rfl) ki_1 ?_
              refine lv_goto (tgt := 105) X.1 X.2.1 (dck_at da_X12_row 53 rfl) rfl ?_
              exact b105 x1 x2 x4 (r5 - (48 : Int32)) (1 : Int32) s5 _ _ _ h Y (lv_sub hl [1, 2, 3, 4, 0] rfl)
      have b36 : ∀ (x1 : Int32) (x2 : Int32) (x4 : Int32) (s0 : St) (H : Heap) (locs : List Loc) (ls : Array Slot), m_row_J36 F k4 x1 x2 x4 s0 = some (ρ, σ') → gY shM D cy ad A s0 s H locs → lv_has ls 7 [(0, .ref (ad 0)), (1, .int x1), (2, .int x2), (4, .int x4)] → W p l e (grm 2) s m args below meth c H locs 0 0 (MQ below (va_Qi (fun (q : Int32) (_ : Unit) => q = ρ) (fun _ t => va_P D vwCl (gWl shM cy ad σ') t.heap) A) args s 0 0 A) (F0 m 36 ls [.ref (ad 0)]) := by
        intro x1 x2 x4 s0 H locs ls h Y hl
        unfold m_row_J36 at h
        refine lv_iconst X.1 X.2.1 (dck_at da_X12_row 19 rfl) ki_1 ?_
        refine lv_goto (tgt := 41) X.1 X.2.1 (dck_at da_X12_row 20 rfl) rfl ?_
        exact b41 x1 x2 x4 (1 : Int32) s0 _ _ _ h Y (lv_sub hl [0, 1, 2, 3] rfl)
      intro x1 x2 x3 s0 H locs ls h Y hl
      unfold m_row_L4b at h
      refine lv_iload_n X.1 X.2.1 (dck_at da_X12_row 4 rfl) rfl (lv_at hl 3 rfl) ?_
      refine lv_if_eq (tgt := 194) X.1 X.2.1 (dck_at da_X12_row 5 rfl) rfl (fun c => ?_) (fun c => ?_)
      · have h := gI_pos h c
        refine lv_iload_n X.1 X.2.1 (dck_at da_X12_row 99 rfl) rfl (lv_at hl 2 rfl) ?_
        exact gr_iretO X Y h hr rfl hlk (dck_at da_X12_row 100 rfl)
      · have h := gI_neg h c
        refine lv_aload_n X.1 X.2.1 (dck_at da_X12_row 6 rfl) rfl (lv_at hl 0 rfl) ?_
        obtain ⟨r6, s6, hc, h⟩ := gB2_some h
        refine gr_backi Y (gr_runV (as := []) (rest := []) X G Y (ok_m_here hc) cv_RX12_169 clM_0 ⟨Nat.le_of_ble_eq_true rfl, Nat.le_of_ble_eq_true rfl⟩ rfl hl.1 (Nat.le_of_ble_eq_true rfl) (dck_at da_X12_row 7 rfl)) (fun H locs Y => ?_)
        obtain ⟨r7, s7, hc, h⟩ := gB2_some h
        refine gr_backi Y (gr_runS (as := [.int r6]) (rest := []) X G Y (ok_m_kindOf hc) cs_RX12_173 ⟨Nat.le_of_ble_eq_true rfl, Nat.le_of_ble_eq_true rfl⟩ rfl hl.1 (Nat.le_of_ble_eq_true rfl) (dck_at da_X12_row 8 rfl)) (fun H locs Y => ?_)
        refine lv_istore (lv' := [(4, .int r7), (0, .ref (ad 0)), (1, .int x1), (2, .int x2), (3, .int x3)]) X.1 X.2.1 (dck_at da_X12_row 9 rfl) hl (by decide) rfl (fun ls hl => ?_)
        refine lv_aload_n X.1 X.2.1 (dck_at da_X12_row 10 rfl) rfl (lv_at hl 1 rfl) ?_
        refine lv_aload_n X.1 X.2.1 (dck_at da_X12_row 11 rfl) rfl (lv_at hl 1 rfl) ?_
        refine gr_getI X G Y fk_RX12_165 clM_0 rfl (dck_at da_X12_row 12 rfl) ?_
        refine lv_if_ne (tgt := 36) X.1 X.2.1 (dck_at da_X12_row 13 rfl) rfl (fun c => ?_) (fun c => ?_)
        · have h := gI_neg h c
          exact b36 x1 x2 r7 s7 _ _ _ h Y (lv_sub hl [1, 2, 3, 0] rfl)
        · have h := gI_pos h c
          refine lv_iload X.1 X.2.1 (dck_at da_X12_row 14 rfl) (lv_at hl 0 rfl) ?_
          refine lv_if_lt (tgt := 36) X.1 X.2.1 (dck_at da_X12_row 15 rfl) rfl (fun c => ?_) (fun c => ?_)
          · have h := gI_pos h c
            exact b36 x1 x2 r7 s7 _ _ _ h Y (lv_sub hl [1, 2, 3, 0] rfl)
          · have h := gI_neg h c
            refine lv_iload_n X.1 X.2.1 (dck_at da_X12_row 16 rfl) rfl (lv_at hl 3 rfl) ?_
            refine lv_bipush X.1 X.2.1 (dck_at da_X12_row 17 rfl) kb_12 ?_
            refine lv_icmp_ne (tgt := 40) X.1 X.2.1 (dck_at da_X12_row 18 rfl) rfl (fun c => ?_) (fun c => ?_)
            · have h := gI_neg h c
              refine lv_iconst X.1 X.2.1 (dck_at da_X12_row 21 rfl) ki_0 ?_
              exact b41 x1 x2 r7 (0 : Int32) s7 _ _ _ h Y (lv_sub hl [1, 2, 3, 0] rfl)
            · have h := gI_pos h c
              exact b36 x1 x2 r7 s7 _ _ _ h Y (lv_sub hl [1, 2, 3, 0] rfl)
  unfold m_row at h
  refine lv_iconst X.1 X.2.1 (dck_at da_X12_row 0 rfl) ki_0 ?_
  refine lv_istore_n (lv' := [(2, .int (0 : Int32)), (0, .ref (ad 0)), (1, .int a1)]) X.1 X.2.1 (dck_at da_X12_row 1 rfl) rfl hl (by decide) rfl (fun ls hl => ?_)
  refine lv_iconst X.1 X.2.1 (dck_at da_X12_row 2 rfl) ki_1 ?_
  refine lv_istore_n (lv' := [(3, .int (1 : Int32)), (2, .int (0 : Int32)), (0, .ref (ad 0)), (1, .int a1)]) X.1 X.2.1 (dck_at da_X12_row 3 rfl) rfl hl (by decide) rfl (fun ls hl => ?_)
  exact b4 F a1 (0 : Int32) (1 : Int32) s0 _ _ _ h Y (lv_sub hl [2, 3, 1, 0] rfl)
set_option maxRecDepth 100000 in
set_option maxHeartbeats 4000000 in
theorem ok_m_land {l : Launch} {D : va_G} {cy : Nat → ClassId} {ad sa : Nat → Nat} {A : Nat → Prop} {F : Nat}  {s0 : St} {ρ : Int32} {σ' : St} (h : m_land F s0 = some (ρ, σ')) : gMi l shM D cy ad sa A yX12_land cX12_land 3 (some .int) 3 [.ref (ad 0)] s0 ρ σ' := by
  refine gM_of (by decide) (Nat.le_of_ble_eq_true rfl) ?_
  intro p e s m args below meth c ls X G Y hr hlk hl
  have hl : lv_has ls 3 [(0, .ref (ad 0))] := hl
  have b119 : ∀ n : Nat, ∀ (x1 : Int32) (x2 : Int32) (s0 : St) (H : Heap) (locs : List Loc) (ls : Array Slot), m_land_L119 F  n x1 x2 s0 = some (ρ, σ') → gY shM D cy ad A s0 s H locs → lv_has ls 3 [(0, .ref (ad 0)), (1, .int x1), (2, .int x2)] → W p l e (grm 3) s m args below meth c H locs 0 0 (MQ below (va_Qi (fun (q : Int32) (_ : Unit) => q = ρ) (fun _ t => va_P D vwCl (gWl shM cy ad σ') t.heap) A) args s 0 0 A) (F0 m 119 ls []) := by
    intro n
    induction n with
    | zero => intro x1 x2 s0 H locs ls h Y hl; exact (gnone h).elim
    | succ n hk119 =>
      have e : m_land_L119 F  (n + 1) = m_land_L119b F  (m_land_L119 F  n) := rfl
      rw [e]; clear e
      generalize m_land_L119 F  n = k119 at hk119 ⊢
      have b180 : ∀ (x1 : Int32) (x2 : Int32) (y1 : Int32) (y2 : Int32) (s0 : St) (H : Heap) (locs : List Loc) (ls : Array Slot), m_land_J180 F k119 x1 x2 y1 y2 s0 = some (ρ, σ') → gY shM D cy ad A s0 s H locs → lv_has ls 3 [(0, .ref (ad 0)), (1, .int x1), (2, .int x2)] → W p l e (grm 3) s m args below meth c H locs 0 0 (MQ below (va_Qi (fun (q : Int32) (_ : Unit) => q = ρ) (fun _ t => va_P D vwCl (gWl shM cy ad σ') t.heap) A) args s 0 0 A) (F0 m 180 ls [.int y2, .int y1, .ref (ad 3)]) := by
        intro x1 x2 y1 y2 s0 H locs ls h Y hl
        unfold m_land_J180 at h
        obtain ⟨hin, h⟩ := gI_if h
        refine gr_iast X G Y clM_3 hin (dck_at da_X12_land 100 rfl) (fun H locs Y => ?_)
        refine lv_iinc (v := x2 + (1 : Int32)) (lv' := [(2, .int (x2 + (1 : Int32))), (0, .ref (ad 0)), (1, .int x1)]) X.1 X.2.1 (dck_at da_X12_land 101 rfl) hl (k := 2) rfl (congrArg (HAdd.hAdd _) ki_1) (by decide) rfl (fun ls hl => ?_)
        refine lv_goto (tgt := 119) X.1 X.2.1 (dck_at da_X12_land 102 rfl) rfl ?_
        exact hk119 x1 (x2 + (1 : Int32)) (sI s0 3 (y1).toNatClampNeg y2) _ _ _ h Y (lv_sub hl [1, 2, 0] rfl)
      have b155 : ∀ (x1 : Int32) (x2 : Int32) (y1 : Int32) (y2 : Int32) (s0 : St) (H : Heap) (locs : List Loc) (ls : Array Slot), m_land_J155 F k119 x1 x2 y1 y2 s0 = some (ρ, σ') → gY shM D cy ad A s0 s H locs → lv_has ls 3 [(0, .ref (ad 0)), (1, .int x1), (2, .int x2)] → W p l e (grm 3) s m args below meth c H locs 0 0 (MQ below (va_Qi (fun (q : Int32) (_ : Unit) => q = ρ) (fun _ t => va_P D vwCl (gWl shM cy ad σ') t.heap) A) args s 0 0 A) (F0 m 155 ls [.int y2, .int y1, .ref (ad 2)]) := by
        intro x1 x2 y1 y2 s0 H locs ls h Y hl
        unfold m_land_J155 at h
        obtain ⟨hin, h⟩ := gI_if h
        refine gr_iast X G Y clM_2 hin (dck_at da_X12_land 85 rfl) (fun H locs Y => ?_)
        refine lv_aload_n X.1 X.2.1 (dck_at da_X12_land 86 rfl) rfl (lv_at hl 0 rfl) ?_
        refine gr_getR X G Y fk_RX12_16 clM_0 rfl (dck_at da_X12_land 87 rfl) ?_
        refine lv_iload_n X.1 X.2.1 (dck_at da_X12_land 88 rfl) rfl (lv_at hl 2 rfl) ?_
        refine lv_aload_n X.1 X.2.1 (dck_at da_X12_land 89 rfl) rfl (lv_at hl 0 rfl) ?_
        refine gr_getR X G Y fk_RX12_31 clM_0 rfl (dck_at da_X12_land 90 rfl) ?_
        refine lv_iload_n X.1 X.2.1 (dck_at da_X12_land 91 rfl) rfl (lv_at hl 2 rfl) ?_
        obtain ⟨hin, h⟩ := gI_if h
        refine gr_iald X G Y clM_8 hin (dck_at da_X12_land 92 rfl) ?_
        refine lv_if_ge (tgt := 179) X.1 X.2.1 (dck_at da_X12_land 93 rfl) rfl (fun c => ?_) (fun c => ?_)
        · have h := gI_pos h c
          refine lv_iconst X.1 X.2.1 (dck_at da_X12_land 99 rfl) ki_0 ?_
          exact b180 x1 x2 x2 (0 : Int32) (sI s0 2 (y1).toNatClampNeg y2) _ _ _ h Y (lv_sub hl [0, 1, 2] rfl)
        · have h := gI_neg h c
          refine lv_aload_n X.1 X.2.1 (dck_at da_X12_land 94 rfl) rfl (lv_at hl 0 rfl) ?_
          refine gr_getR X G Y fk_RX12_16 clM_0 rfl (dck_at da_X12_land 95 rfl) ?_
          refine lv_iload_n X.1 X.2.1 (dck_at da_X12_land 96 rfl) rfl (lv_at hl 2 rfl) ?_
          obtain ⟨hin, h⟩ := gI_if h
          refine gr_iald X G Y clM_3 hin (dck_at da_X12_land 97 rfl) ?_
          refine lv_goto (tgt := 180) X.1 X.2.1 (dck_at da_X12_land 98 rfl) rfl ?_
          exact b180 x1 x2 x2 ((sI s0 2 (y1).toNatClampNeg y2).1 3 (x2).toNatClampNeg) (sI s0 2 (y1).toNatClampNeg y2) _ _ _ h Y (lv_sub hl [0, 1, 2] rfl)
      intro x1 x2 s0 H locs ls h Y hl
      unfold m_land_L119b at h
      refine lv_iload_n X.1 X.2.1 (dck_at da_X12_land 65 rfl) rfl (lv_at hl 2 rfl) ?_
      refine lv_sipush X.1 X.2.1 (dck_at da_X12_land 66 rfl) ks_144 ?_
      refine lv_icmp_ge (tgt := 187) X.1 X.2.1 (dck_at da_X12_land 67 rfl) rfl (fun c => ?_) (fun c => ?_)
      · have h := gI_pos h c
        refine lv_iload_n X.1 X.2.1 (dck_at da_X12_land 103 rfl) rfl (lv_at hl 1 rfl) ?_
        exact gr_iretO X Y h hr rfl hlk (dck_at da_X12_land 104 rfl)
      · have h := gI_neg h c
        refine lv_aload_n X.1 X.2.1 (dck_at da_X12_land 68 rfl) rfl (lv_at hl 0 rfl) ?_
        refine gr_getR X G Y fk_RX12_13 clM_0 rfl (dck_at da_X12_land 69 rfl) ?_
        refine lv_iload_n X.1 X.2.1 (dck_at da_X12_land 70 rfl) rfl (lv_at hl 2 rfl) ?_
        refine lv_aload_n X.1 X.2.1 (dck_at da_X12_land 71 rfl) rfl (lv_at hl 0 rfl) ?_
        refine gr_getR X G Y fk_RX12_31 clM_0 rfl (dck_at da_X12_land 72 rfl) ?_
        refine lv_iload_n X.1 X.2.1 (dck_at da_X12_land 73 rfl) rfl (lv_at hl 2 rfl) ?_
        obtain ⟨hin, h⟩ := gI_if h
        refine gr_iald X G Y clM_8 hin (dck_at da_X12_land 74 rfl) ?_
        refine lv_if_ge (tgt := 149) X.1 X.2.1 (dck_at da_X12_land 75 rfl) rfl (fun c => ?_) (fun c => ?_)
        · have h := gI_pos h c
          refine lv_aload_n X.1 X.2.1 (dck_at da_X12_land 81 rfl) rfl (lv_at hl 0 rfl) ?_
          refine gr_getR X G Y fk_RX12_31 clM_0 rfl (dck_at da_X12_land 82 rfl) ?_
          refine lv_iload_n X.1 X.2.1 (dck_at da_X12_land 83 rfl) rfl (lv_at hl 2 rfl) ?_
          obtain ⟨hin, h⟩ := gI_if h
          refine gr_iald X G Y clM_8 hin (dck_at da_X12_land 84 rfl) ?_
          exact b155 x1 x2 x2 (s0.1 8 (x2).toNatClampNeg) s0 _ _ _ h Y (lv_sub hl [0, 1, 2] rfl)
        · have h := gI_neg h c
          refine lv_aload_n X.1 X.2.1 (dck_at da_X12_land 76 rfl) rfl (lv_at hl 0 rfl) ?_
          refine gr_getR X G Y fk_RX12_13 clM_0 rfl (dck_at da_X12_land 77 rfl) ?_
          refine lv_iload_n X.1 X.2.1 (dck_at da_X12_land 78 rfl) rfl (lv_at hl 2 rfl) ?_
          obtain ⟨hin, h⟩ := gI_if h
          refine gr_iald X G Y clM_2 hin (dck_at da_X12_land 79 rfl) ?_
          refine lv_goto (tgt := 155) X.1 X.2.1 (dck_at da_X12_land 80 rfl) rfl ?_
          exact b155 x1 x2 x2 (s0.1 2 (x2).toNatClampNeg) s0 _ _ _ h Y (lv_sub hl [0, 1, 2] rfl)
  have b90 : ∀ (x1 : Int32) (y1 : Int32) (s0 : St) (H : Heap) (locs : List Loc) (ls : Array Slot), m_land_J90 F  x1 y1 s0 = some (ρ, σ') → gY shM D cy ad A s0 s H locs → lv_has ls 3 [(0, .ref (ad 0)), (1, .int x1)] → W p l e (grm 3) s m args below meth c H locs 0 0 (MQ below (va_Qi (fun (q : Int32) (_ : Unit) => q = ρ) (fun _ t => va_P D vwCl (gWl shM cy ad σ') t.heap) A) args s 0 0 A) (F0 m 90 ls [.int y1, .ref (ad 0)]) := by
    intro x1 y1 s0 H locs ls h Y hl
    unfold m_land_J90 at h
    obtain ⟨hz, h⟩ := gI_if h
    refine gr_putZ X G Y hz fp_RX12_165 clM_0 rfl (dck_at da_X12_land 49 rfl) (fun H locs Y => ?_)
    refine lv_aload_n X.1 X.2.1 (dck_at da_X12_land 50 rfl) rfl (lv_at hl 0 rfl) ?_
    refine lv_iconst X.1 X.2.1 (dck_at da_X12_land 51 rfl) ki_0 ?_
    refine gr_putI X G Y fp_RX12_159 clM_0 rfl (dck_at da_X12_land 52 rfl) (fun H locs Y => ?_)
    refine lv_aload_n X.1 X.2.1 (dck_at da_X12_land 53 rfl) rfl (lv_at hl 0 rfl) ?_
    refine gr_getI X G Y fk_RX12_165 clM_0 rfl (dck_at da_X12_land 54 rfl) ?_
    refine lv_if_eq (tgt := 117) X.1 X.2.1 (dck_at da_X12_land 55 rfl) rfl (fun c => ?_) (fun c => ?_)
    · have h := gI_pos h c
      refine lv_iconst X.1 X.2.1 (dck_at da_X12_land 63 rfl) ki_0 ?_
      refine lv_istore_n (lv' := [(2, .int (0 : Int32)), (0, .ref (ad 0)), (1, .int x1)]) X.1 X.2.1 (dck_at da_X12_land 64 rfl) rfl hl (by decide) rfl (fun ls hl => ?_)
      exact b119 F x1 (0 : Int32) (sI (sI s0 0 9 y1) 0 7 (0 : Int32)) _ _ _ h Y (lv_sub hl [1, 2, 0] rfl)
    · have h := gI_neg h c
      refine lv_aload_n X.1 X.2.1 (dck_at da_X12_land 56 rfl) rfl (lv_at hl 0 rfl) ?_
      refine lv_bipush X.1 X.2.1 (dck_at da_X12_land 57 rfl) kb_m20 ?_
      refine lv_aload_n X.1 X.2.1 (dck_at da_X12_land 58 rfl) rfl (lv_at hl 0 rfl) ?_
      refine gr_getI X G Y fk_RX12_162 clM_0 rfl (dck_at da_X12_land 59 rfl) ?_
      refine lv_isub X.1 X.2.1 (dck_at da_X12_land 60 rfl) ?_
      obtain ⟨r1, s1, hc, h⟩ := gB2_some h
      refine gr_backi Y (gr_runV (as := [.int ((-20 : Int32) - ((sI (sI s0 0 9 y1) 0 7 (0 : Int32)).1 0 8))]) (rest := []) X G Y (ok_m_tells hc) cv_RX12_130 clM_0 ⟨Nat.le_of_ble_eq_true rfl, Nat.le_of_ble_eq_true rfl⟩ rfl hl.1 (Nat.le_of_ble_eq_true rfl) (dck_at da_X12_land 61 rfl)) (fun H locs Y => ?_)
      exact gr_iretO X Y h hr rfl hlk (dck_at da_X12_land 62 rfl)
  have b85 : ∀ (x1 : Int32) (s0 : St) (H : Heap) (locs : List Loc) (ls : Array Slot), m_land_J85 F  x1 s0 = some (ρ, σ') → gY shM D cy ad A s0 s H locs → lv_has ls 3 [(0, .ref (ad 0)), (1, .int x1)] → W p l e (grm 3) s m args below meth c H locs 0 0 (MQ below (va_Qi (fun (q : Int32) (_ : Unit) => q = ρ) (fun _ t => va_P D vwCl (gWl shM cy ad σ') t.heap) A) args s 0 0 A) (F0 m 85 ls [.ref (ad 0)]) := by
    intro x1 s0 H locs ls h Y hl
    unfold m_land_J85 at h
    refine lv_iconst X.1 X.2.1 (dck_at da_X12_land 46 rfl) ki_1 ?_
    refine lv_goto (tgt := 90) X.1 X.2.1 (dck_at da_X12_land 47 rfl) rfl ?_
    exact b90 x1 (1 : Int32) s0 _ _ _ h Y (lv_sub hl [0, 1] rfl)
  have b70 : ∀ (x1 : Int32) (s0 : St) (H : Heap) (locs : List Loc) (ls : Array Slot), m_land_J70 F  x1 s0 = some (ρ, σ') → gY shM D cy ad A s0 s H locs → lv_has ls 3 [(0, .ref (ad 0)), (1, .int x1)] → W p l e (grm 3) s m args below meth c H locs 0 0 (MQ below (va_Qi (fun (q : Int32) (_ : Unit) => q = ρ) (fun _ t => va_P D vwCl (gWl shM cy ad σ') t.heap) A) args s 0 0 A) (F0 m 70 ls []) := by
    intro x1 s0 H locs ls h Y hl
    unfold m_land_J70 at h
    refine lv_aload_n X.1 X.2.1 (dck_at da_X12_land 39 rfl) rfl (lv_at hl 0 rfl) ?_
    refine lv_aload_n X.1 X.2.1 (dck_at da_X12_land 40 rfl) rfl (lv_at hl 0 rfl) ?_
    refine gr_getI X G Y fk_RX12_165 clM_0 rfl (dck_at da_X12_land 41 rfl) ?_
    refine lv_if_ne (tgt := 85) X.1 X.2.1 (dck_at da_X12_land 42 rfl) rfl (fun c => ?_) (fun c => ?_)
    · have h := gI_neg h c
      exact b85 x1 s0 _ _ _ h Y (lv_sub hl [0, 1] rfl)
    · have h := gI_pos h c
      refine lv_aload_n X.1 X.2.1 (dck_at da_X12_land 43 rfl) rfl (lv_at hl 0 rfl) ?_
      obtain ⟨r2, s2, hc, h⟩ := gB2_some h
      refine gr_backi Y (gr_runV (as := []) (rest := [.ref (ad 0)]) X G Y (ok_m_here hc) cv_RX12_169 clM_0 ⟨Nat.le_of_ble_eq_true rfl, Nat.le_of_ble_eq_true rfl⟩ rfl hl.1 (Nat.le_of_ble_eq_true rfl) (dck_at da_X12_land 44 rfl)) (fun H locs Y => ?_)
      refine lv_if_eq (tgt := 89) X.1 X.2.1 (dck_at da_X12_land 45 rfl) rfl (fun c => ?_) (fun c => ?_)
      · have h := gI_pos h c
        refine lv_iconst X.1 X.2.1 (dck_at da_X12_land 48 rfl) ki_0 ?_
        exact b90 x1 (0 : Int32) s2 _ _ _ h Y (lv_sub hl [0, 1] rfl)
      · have h := gI_neg h c
        exact b85 x1 s2 _ _ _ h Y (lv_sub hl [0, 1] rfl)
  have b41 : ∀ n : Nat, ∀ (x1 : Int32) (x2 : Int32) (s0 : St) (H : Heap) (locs : List Loc) (ls : Array Slot), m_land_L41 F  n x1 x2 s0 = some (ρ, σ') → gY shM D cy ad A s0 s H locs → lv_has ls 3 [(0, .ref (ad 0)), (1, .int x1), (2, .int x2)] → W p l e (grm 3) s m args below meth c H locs 0 0 (MQ below (va_Qi (fun (q : Int32) (_ : Unit) => q = ρ) (fun _ t => va_P D vwCl (gWl shM cy ad σ') t.heap) A) args s 0 0 A) (F0 m 41 ls []) := by
    intro n
    induction n with
    | zero => intro x1 x2 s0 H locs ls h Y hl; exact (gnone h).elim
    | succ n hk41 =>
      have e : m_land_L41 F  (n + 1) = m_land_L41b F  (m_land_L41 F  n) := rfl
      rw [e]; clear e
      generalize m_land_L41 F  n = k41 at hk41 ⊢
      intro x1 x2 s0 H locs ls h Y hl
      unfold m_land_L41b at h
      refine lv_iload_n X.1 X.2.1 (dck_at da_X12_land 24 rfl) rfl (lv_at hl 2 rfl) ?_
      refine lv_bipush X.1 X.2.1 (dck_at da_X12_land 25 rfl) kb_12 ?_
      refine lv_icmp_ge (tgt := 70) X.1 X.2.1 (dck_at da_X12_land 26 rfl) rfl (fun c => ?_) (fun c => ?_)
      · have h := gI_pos h c
        exact b70 x1 s0 _ _ _ h Y (lv_sub hl [0, 1] rfl)
      · have h := gI_neg h c
        refine lv_aload_n X.1 X.2.1 (dck_at da_X12_land 27 rfl) rfl (lv_at hl 0 rfl) ?_
        refine lv_bipush X.1 X.2.1 (dck_at da_X12_land 28 rfl) kb_47 ?_
        obtain ⟨r3, s3, hc, h⟩ := gB2_some h
        refine gr_backi Y (gr_runV (as := [.int (47 : Int32)]) (rest := []) X G Y (ok_m_has hc) cv_RX12_183 clM_0 ⟨Nat.le_of_ble_eq_true rfl, Nat.le_of_ble_eq_true rfl⟩ rfl hl.1 (Nat.le_of_ble_eq_true rfl) (dck_at da_X12_land 29 rfl)) (fun H locs Y => ?_)
        refine lv_if_eq (tgt := 70) X.1 X.2.1 (dck_at da_X12_land 30 rfl) rfl (fun c => ?_) (fun c => ?_)
        · have h := gI_pos h c
          exact b70 x1 s3 _ _ _ h Y (lv_sub hl [0, 1] rfl)
        · have h := gI_neg h c
          refine lv_iload_n X.1 X.2.1 (dck_at da_X12_land 31 rfl) rfl (lv_at hl 1 rfl) ?_
          refine lv_aload_n X.1 X.2.1 (dck_at da_X12_land 32 rfl) rfl (lv_at hl 0 rfl) ?_
          refine lv_iload_n X.1 X.2.1 (dck_at da_X12_land 33 rfl) rfl (lv_at hl 2 rfl) ?_
          obtain ⟨r4, s4, hc, h⟩ := gB2_some h
          refine gr_backi Y (gr_runV (as := [.int x2]) (rest := [.int x1]) X G Y (ok_m_row hc) cv_RX12_180 clM_0 ⟨Nat.le_of_ble_eq_true rfl, Nat.le_of_ble_eq_true rfl⟩ rfl hl.1 (Nat.le_of_ble_eq_true rfl) (dck_at da_X12_land 34 rfl)) (fun H locs Y => ?_)
          refine lv_iadd X.1 X.2.1 (dck_at da_X12_land 35 rfl) ?_
          refine lv_istore_n (lv' := [(1, .int (x1 + r4)), (0, .ref (ad 0)), (2, .int x2)]) X.1 X.2.1 (dck_at da_X12_land 36 rfl) rfl hl (by decide) rfl (fun ls hl => ?_)
          refine lv_iinc (v := x2 + (1 : Int32)) (lv' := [(2, .int (x2 + (1 : Int32))), (1, .int (x1 + r4)), (0, .ref (ad 0))]) X.1 X.2.1 (dck_at da_X12_land 37 rfl) hl (k := 2) rfl (congrArg (HAdd.hAdd _) ki_1) (by decide) rfl (fun ls hl => ?_)
          refine lv_goto (tgt := 41) X.1 X.2.1 (dck_at da_X12_land 38 rfl) rfl ?_
          exact hk41 (x1 + r4) (x2 + (1 : Int32)) s4 _ _ _ h Y (lv_sub hl [2, 1, 0] rfl)
  have b12 : ∀ n : Nat, ∀ (x1 : Int32) (s0 : St) (H : Heap) (locs : List Loc) (ls : Array Slot), m_land_L12 F  n x1 s0 = some (ρ, σ') → gY shM D cy ad A s0 s H locs → lv_has ls 3 [(0, .ref (ad 0)), (1, .int x1)] → W p l e (grm 3) s m args below meth c H locs 0 0 (MQ below (va_Qi (fun (q : Int32) (_ : Unit) => q = ρ) (fun _ t => va_P D vwCl (gWl shM cy ad σ') t.heap) A) args s 0 0 A) (F0 m 12 ls []) := by
    intro n
    induction n with
    | zero => intro x1 s0 H locs ls h Y hl; exact (gnone h).elim
    | succ n hk12 =>
      have e : m_land_L12 F  (n + 1) = m_land_L12b F  (m_land_L12 F  n) := rfl
      rw [e]; clear e
      generalize m_land_L12 F  n = k12 at hk12 ⊢
      intro x1 s0 H locs ls h Y hl
      unfold m_land_L12b at h
      refine lv_iload_n X.1 X.2.1 (dck_at da_X12_land 8 rfl) rfl (lv_at hl 1 rfl) ?_
      refine lv_sipush X.1 X.2.1 (dck_at da_X12_land 9 rfl) ks_144 ?_
      refine lv_icmp_ge (tgt := 33) X.1 X.2.1 (dck_at da_X12_land 10 rfl) rfl (fun c => ?_) (fun c => ?_)
      · have h := gI_pos h c
        refine lv_aload_n X.1 X.2.1 (dck_at da_X12_land 18 rfl) rfl (lv_at hl 0 rfl) ?_
        refine lv_iconst X.1 X.2.1 (dck_at da_X12_land 19 rfl) ki_0 ?_
        obtain ⟨r5, s5, hc, h⟩ := gB2_some h
        refine gr_backi Y (gr_runV (as := [.int (0 : Int32)]) (rest := []) X G Y (ok_m_row hc) cv_RX12_180 clM_0 ⟨Nat.le_of_ble_eq_true rfl, Nat.le_of_ble_eq_true rfl⟩ rfl hl.1 (Nat.le_of_ble_eq_true rfl) (dck_at da_X12_land 20 rfl)) (fun H locs Y => ?_)
        refine lv_istore_n (lv' := [(1, .int r5), (0, .ref (ad 0))]) X.1 X.2.1 (dck_at da_X12_land 21 rfl) rfl hl (by decide) rfl (fun ls hl => ?_)
        refine lv_iconst X.1 X.2.1 (dck_at da_X12_land 22 rfl) ki_1 ?_
        refine lv_istore_n (lv' := [(2, .int (1 : Int32)), (1, .int r5), (0, .ref (ad 0))]) X.1 X.2.1 (dck_at da_X12_land 23 rfl) rfl hl (by decide) rfl (fun ls hl => ?_)
        exact b41 F r5 (1 : Int32) s5 _ _ _ h Y (lv_sub hl [2, 1, 0] rfl)
      · have h := gI_neg h c
        refine lv_aload_n X.1 X.2.1 (dck_at da_X12_land 11 rfl) rfl (lv_at hl 0 rfl) ?_
        refine gr_getR X G Y fk_RX12_31 clM_0 rfl (dck_at da_X12_land 12 rfl) ?_
        refine lv_iload_n X.1 X.2.1 (dck_at da_X12_land 13 rfl) rfl (lv_at hl 1 rfl) ?_
        refine lv_bipush X.1 X.2.1 (dck_at da_X12_land 14 rfl) kb_m4 ?_
        obtain ⟨hin, h⟩ := gI_if h
        refine gr_iast X G Y clM_8 hin (dck_at da_X12_land 15 rfl) (fun H locs Y => ?_)
        refine lv_iinc (v := x1 + (1 : Int32)) (lv' := [(1, .int (x1 + (1 : Int32))), (0, .ref (ad 0))]) X.1 X.2.1 (dck_at da_X12_land 16 rfl) hl (k := 1) rfl (congrArg (HAdd.hAdd _) ki_1) (by decide) rfl (fun ls hl => ?_)
        refine lv_goto (tgt := 12) X.1 X.2.1 (dck_at da_X12_land 17 rfl) rfl ?_
        exact hk12 (x1 + (1 : Int32)) (sI s0 8 (x1).toNatClampNeg (-4 : Int32)) _ _ _ h Y (lv_sub hl [1, 0] rfl)
  unfold m_land at h
  refine lv_aload_n X.1 X.2.1 (dck_at da_X12_land 0 rfl) rfl (lv_at hl 0 rfl) ?_
  refine lv_iconst X.1 X.2.1 (dck_at da_X12_land 1 rfl) ki_0 ?_
  refine gr_putI X G Y fp_RX12_162 clM_0 rfl (dck_at da_X12_land 2 rfl) (fun H locs Y => ?_)
  refine lv_aload_n X.1 X.2.1 (dck_at da_X12_land 3 rfl) rfl (lv_at hl 0 rfl) ?_
  refine lv_iconst X.1 X.2.1 (dck_at da_X12_land 4 rfl) ki_0 ?_
  refine gr_putZ X G Y (by decide) fp_RX12_165 clM_0 rfl (dck_at da_X12_land 5 rfl) (fun H locs Y => ?_)
  refine lv_iconst X.1 X.2.1 (dck_at da_X12_land 6 rfl) ki_0 ?_
  refine lv_istore_n (lv' := [(1, .int (0 : Int32)), (0, .ref (ad 0))]) X.1 X.2.1 (dck_at da_X12_land 7 rfl) rfl hl (by decide) rfl (fun ls hl => ?_)
  exact b12 F (0 : Int32) (sI (sI s0 0 8 (0 : Int32)) 0 9 (0 : Int32)) _ _ _ h Y (lv_sub hl [1, 0] rfl)
set_option maxRecDepth 100000 in
set_option maxHeartbeats 4000000 in
theorem ok_m_settingOf {l : Launch} {D : va_G} {cy : Nat → ClassId} {ad sa : Nat → Nat} {A : Nat → Prop} {F : Nat} {a0 : Int32} {s0 : St} {ρ : Int32} {σ' : St} (h : m_settingOf F a0 s0 = some (ρ, σ')) : gMi l shM D cy ad sa A yX12_settingOf cX12_settingOf 1 (some .int) 1 [.int a0] s0 ρ σ' := by
  refine gM_of (by decide) (Nat.le_of_ble_eq_true rfl) ?_
  intro p e s m args below meth c ls X G Y hr hlk hl
  have hl : lv_has ls 1 [(0, .int a0)] := hl
  unfold m_settingOf at h
  refine lv_iload_n X.1 X.2.1 (dck_at da_X12_settingOf 0 rfl) rfl (lv_at hl 0 rfl) ?_
  by_cases c0 : a0 = (97 : Int32)
  · have h := gI_pos h c0
    refine lv_tableIn (tgt := 96) (off := 95) X.1 X.2.1 (dck_at da_X12_settingOf 1 rfl) (by rw [c0]; decide) (by rw [c0]; decide) (by rw [c0]; rfl) rfl ?_
    refine lv_iconst X.1 X.2.1 (dck_at da_X12_settingOf 2 rfl) ki_0 ?_
    exact gr_iretO X Y h hr rfl hlk (dck_at da_X12_settingOf 3 rfl)
  have h := gI_neg h c0
  by_cases c1 : a0 = (98 : Int32)
  · have h := gI_pos h c1
    refine lv_tableIn (tgt := 102) (off := 101) X.1 X.2.1 (dck_at da_X12_settingOf 1 rfl) (by rw [c1]; decide) (by rw [c1]; decide) (by rw [c1]; rfl) rfl ?_
    refine lv_iconst X.1 X.2.1 (dck_at da_X12_settingOf 8 rfl) ki_3 ?_
    exact gr_iretO X Y h hr rfl hlk (dck_at da_X12_settingOf 9 rfl)
  have h := gI_neg h c1
  by_cases c2 : a0 = (99 : Int32)
  · have h := gI_pos h c2
    refine lv_tableIn (tgt := 108) (off := 107) X.1 X.2.1 (dck_at da_X12_settingOf 1 rfl) (by rw [c2]; decide) (by rw [c2]; decide) (by rw [c2]; rfl) rfl ?_
    refine lv_bipush X.1 X.2.1 (dck_at da_X12_settingOf 14 rfl) kb_m4 ?_
    exact gr_iretO X Y h hr rfl hlk (dck_at da_X12_settingOf 15 rfl)
  have h := gI_neg h c2
  by_cases c3 : a0 = (100 : Int32)
  · have h := gI_pos h c3
    refine lv_tableIn (tgt := 106) (off := 105) X.1 X.2.1 (dck_at da_X12_settingOf 1 rfl) (by rw [c3]; decide) (by rw [c3]; decide) (by rw [c3]; rfl) rfl ?_
    refine lv_iconst X.1 X.2.1 (dck_at da_X12_settingOf 12 rfl) ki_5 ?_
    exact gr_iretO X Y h hr rfl hlk (dck_at da_X12_settingOf 13 rfl)
  have h := gI_neg h c3
  by_cases c4 : a0 = (101 : Int32)
  · have h := gI_pos h c4
    refine lv_tableIn (tgt := 108) (off := 107) X.1 X.2.1 (dck_at da_X12_settingOf 1 rfl) (by rw [c4]; decide) (by rw [c4]; decide) (by rw [c4]; rfl) rfl ?_
    refine lv_bipush X.1 X.2.1 (dck_at da_X12_settingOf 14 rfl) kb_m4 ?_
    exact gr_iretO X Y h hr rfl hlk (dck_at da_X12_settingOf 15 rfl)
  have h := gI_neg h c4
  by_cases c5 : a0 = (102 : Int32)
  · have h := gI_pos h c5
    refine lv_tableIn (tgt := 108) (off := 107) X.1 X.2.1 (dck_at da_X12_settingOf 1 rfl) (by rw [c5]; decide) (by rw [c5]; decide) (by rw [c5]; rfl) rfl ?_
    refine lv_bipush X.1 X.2.1 (dck_at da_X12_settingOf 14 rfl) kb_m4 ?_
    exact gr_iretO X Y h hr rfl hlk (dck_at da_X12_settingOf 15 rfl)
  have h := gI_neg h c5
  by_cases c6 : a0 = (103 : Int32)
  · have h := gI_pos h c6
    refine lv_tableIn (tgt := 108) (off := 107) X.1 X.2.1 (dck_at da_X12_settingOf 1 rfl) (by rw [c6]; decide) (by rw [c6]; decide) (by rw [c6]; rfl) rfl ?_
    refine lv_bipush X.1 X.2.1 (dck_at da_X12_settingOf 14 rfl) kb_m4 ?_
    exact gr_iretO X Y h hr rfl hlk (dck_at da_X12_settingOf 15 rfl)
  have h := gI_neg h c6
  by_cases c7 : a0 = (104 : Int32)
  · have h := gI_pos h c7
    refine lv_tableIn (tgt := 108) (off := 107) X.1 X.2.1 (dck_at da_X12_settingOf 1 rfl) (by rw [c7]; decide) (by rw [c7]; decide) (by rw [c7]; rfl) rfl ?_
    refine lv_bipush X.1 X.2.1 (dck_at da_X12_settingOf 14 rfl) kb_m4 ?_
    exact gr_iretO X Y h hr rfl hlk (dck_at da_X12_settingOf 15 rfl)
  have h := gI_neg h c7
  by_cases c8 : a0 = (105 : Int32)
  · have h := gI_pos h c8
    refine lv_tableIn (tgt := 108) (off := 107) X.1 X.2.1 (dck_at da_X12_settingOf 1 rfl) (by rw [c8]; decide) (by rw [c8]; decide) (by rw [c8]; rfl) rfl ?_
    refine lv_bipush X.1 X.2.1 (dck_at da_X12_settingOf 14 rfl) kb_m4 ?_
    exact gr_iretO X Y h hr rfl hlk (dck_at da_X12_settingOf 15 rfl)
  have h := gI_neg h c8
  by_cases c9 : a0 = (106 : Int32)
  · have h := gI_pos h c9
    refine lv_tableIn (tgt := 108) (off := 107) X.1 X.2.1 (dck_at da_X12_settingOf 1 rfl) (by rw [c9]; decide) (by rw [c9]; decide) (by rw [c9]; rfl) rfl ?_
    refine lv_bipush X.1 X.2.1 (dck_at da_X12_settingOf 14 rfl) kb_m4 ?_
    exact gr_iretO X Y h hr rfl hlk (dck_at da_X12_settingOf 15 rfl)
  have h := gI_neg h c9
  by_cases c10 : a0 = (107 : Int32)
  · have h := gI_pos h c10
    refine lv_tableIn (tgt := 108) (off := 107) X.1 X.2.1 (dck_at da_X12_settingOf 1 rfl) (by rw [c10]; decide) (by rw [c10]; decide) (by rw [c10]; rfl) rfl ?_
    refine lv_bipush X.1 X.2.1 (dck_at da_X12_settingOf 14 rfl) kb_m4 ?_
    exact gr_iretO X Y h hr rfl hlk (dck_at da_X12_settingOf 15 rfl)
  have h := gI_neg h c10
  by_cases c11 : a0 = (108 : Int32)
  · have h := gI_pos h c11
    refine lv_tableIn (tgt := 98) (off := 97) X.1 X.2.1 (dck_at da_X12_settingOf 1 rfl) (by rw [c11]; decide) (by rw [c11]; decide) (by rw [c11]; rfl) rfl ?_
    refine lv_iconst X.1 X.2.1 (dck_at da_X12_settingOf 4 rfl) ki_1 ?_
    exact gr_iretO X Y h hr rfl hlk (dck_at da_X12_settingOf 5 rfl)
  have h := gI_neg h c11
  by_cases c12 : a0 = (109 : Int32)
  · have h := gI_pos h c12
    refine lv_tableIn (tgt := 108) (off := 107) X.1 X.2.1 (dck_at da_X12_settingOf 1 rfl) (by rw [c12]; decide) (by rw [c12]; decide) (by rw [c12]; rfl) rfl ?_
    refine lv_bipush X.1 X.2.1 (dck_at da_X12_settingOf 14 rfl) kb_m4 ?_
    exact gr_iretO X Y h hr rfl hlk (dck_at da_X12_settingOf 15 rfl)
  have h := gI_neg h c12
  by_cases c13 : a0 = (110 : Int32)
  · have h := gI_pos h c13
    refine lv_tableIn (tgt := 108) (off := 107) X.1 X.2.1 (dck_at da_X12_settingOf 1 rfl) (by rw [c13]; decide) (by rw [c13]; decide) (by rw [c13]; rfl) rfl ?_
    refine lv_bipush X.1 X.2.1 (dck_at da_X12_settingOf 14 rfl) kb_m4 ?_
    exact gr_iretO X Y h hr rfl hlk (dck_at da_X12_settingOf 15 rfl)
  have h := gI_neg h c13
  by_cases c14 : a0 = (111 : Int32)
  · have h := gI_pos h c14
    refine lv_tableIn (tgt := 108) (off := 107) X.1 X.2.1 (dck_at da_X12_settingOf 1 rfl) (by rw [c14]; decide) (by rw [c14]; decide) (by rw [c14]; rfl) rfl ?_
    refine lv_bipush X.1 X.2.1 (dck_at da_X12_settingOf 14 rfl) kb_m4 ?_
    exact gr_iretO X Y h hr rfl hlk (dck_at da_X12_settingOf 15 rfl)
  have h := gI_neg h c14
  by_cases c15 : a0 = (112 : Int32)
  · have h := gI_pos h c15
    refine lv_tableIn (tgt := 108) (off := 107) X.1 X.2.1 (dck_at da_X12_settingOf 1 rfl) (by rw [c15]; decide) (by rw [c15]; decide) (by rw [c15]; rfl) rfl ?_
    refine lv_bipush X.1 X.2.1 (dck_at da_X12_settingOf 14 rfl) kb_m4 ?_
    exact gr_iretO X Y h hr rfl hlk (dck_at da_X12_settingOf 15 rfl)
  have h := gI_neg h c15
  by_cases c16 : a0 = (113 : Int32)
  · have h := gI_pos h c16
    refine lv_tableIn (tgt := 108) (off := 107) X.1 X.2.1 (dck_at da_X12_settingOf 1 rfl) (by rw [c16]; decide) (by rw [c16]; decide) (by rw [c16]; rfl) rfl ?_
    refine lv_bipush X.1 X.2.1 (dck_at da_X12_settingOf 14 rfl) kb_m4 ?_
    exact gr_iretO X Y h hr rfl hlk (dck_at da_X12_settingOf 15 rfl)
  have h := gI_neg h c16
  by_cases c17 : a0 = (114 : Int32)
  · have h := gI_pos h c17
    refine lv_tableIn (tgt := 100) (off := 99) X.1 X.2.1 (dck_at da_X12_settingOf 1 rfl) (by rw [c17]; decide) (by rw [c17]; decide) (by rw [c17]; rfl) rfl ?_
    refine lv_iconst X.1 X.2.1 (dck_at da_X12_settingOf 6 rfl) ki_2 ?_
    exact gr_iretO X Y h hr rfl hlk (dck_at da_X12_settingOf 7 rfl)
  have h := gI_neg h c17
  by_cases c18 : a0 = (115 : Int32)
  · have h := gI_pos h c18
    refine lv_tableIn (tgt := 108) (off := 107) X.1 X.2.1 (dck_at da_X12_settingOf 1 rfl) (by rw [c18]; decide) (by rw [c18]; decide) (by rw [c18]; rfl) rfl ?_
    refine lv_bipush X.1 X.2.1 (dck_at da_X12_settingOf 14 rfl) kb_m4 ?_
    exact gr_iretO X Y h hr rfl hlk (dck_at da_X12_settingOf 15 rfl)
  have h := gI_neg h c18
  by_cases c19 : a0 = (116 : Int32)
  · have h := gI_pos h c19
    refine lv_tableIn (tgt := 104) (off := 103) X.1 X.2.1 (dck_at da_X12_settingOf 1 rfl) (by rw [c19]; decide) (by rw [c19]; decide) (by rw [c19]; rfl) rfl ?_
    refine lv_iconst X.1 X.2.1 (dck_at da_X12_settingOf 10 rfl) ki_4 ?_
    exact gr_iretO X Y h hr rfl hlk (dck_at da_X12_settingOf 11 rfl)
  have h := gI_neg h c19
  refine lv_tableOut (tgt := 108) X.1 X.2.1 (dck_at da_X12_settingOf 1 rfl) (by have t0 := lv_neT (a := 97) c0 rfl; have t1 := lv_neT (a := 98) c1 rfl; have t2 := lv_neT (a := 99) c2 rfl; have t3 := lv_neT (a := 100) c3 rfl; have t4 := lv_neT (a := 101) c4 rfl; have t5 := lv_neT (a := 102) c5 rfl; have t6 := lv_neT (a := 103) c6 rfl; have t7 := lv_neT (a := 104) c7 rfl; have t8 := lv_neT (a := 105) c8 rfl; have t9 := lv_neT (a := 106) c9 rfl; have t10 := lv_neT (a := 107) c10 rfl; have t11 := lv_neT (a := 108) c11 rfl; have t12 := lv_neT (a := 109) c12 rfl; have t13 := lv_neT (a := 110) c13 rfl; have t14 := lv_neT (a := 111) c14 rfl; have t15 := lv_neT (a := 112) c15 rfl; have t16 := lv_neT (a := 113) c16 rfl; have t17 := lv_neT (a := 114) c17 rfl; have t18 := lv_neT (a := 115) c18 rfl; have t19 := lv_neT (a := 116) c19 rfl; omega) rfl ?_
  refine lv_bipush X.1 X.2.1 (dck_at da_X12_settingOf 14 rfl) kb_m4 ?_
  exact gr_iretO X Y h hr rfl hlk (dck_at da_X12_settingOf 15 rfl)
set_option maxRecDepth 100000 in
set_option maxHeartbeats 4000000 in
theorem ok_m_rules {l : Launch} {D : va_G} {cy : Nat → ClassId} {ad sa : Nat → Nat} {A : Nat → Prop} {F : Nat}  {s0 : St} {ρ : Int32} {σ' : St} (h : m_rules F s0 = some (ρ, σ')) : gMi l shM D cy ad sa A yX12_rules cX12_rules 4 (some .int) 3 [.ref (ad 0)] s0 ρ σ' := by
  refine gM_of (by decide) (Nat.le_of_ble_eq_true rfl) ?_
  intro p e s m args below meth c ls X G Y hr hlk hl
  have hl : lv_has ls 4 [(0, .ref (ad 0))] := hl
  have b218 : ∀ n : Nat, ∀ (x1 : Int32) (x3 : Int32) (s0 : St) (H : Heap) (locs : List Loc) (ls : Array Slot), m_rules_L218 F  n x1 x3 s0 = some (ρ, σ') → gY shM D cy ad A s0 s H locs → lv_has ls 4 [(0, .ref (ad 0)), (1, .int x1), (3, .int x3)] → W p l e (grm 3) s m args below meth c H locs 0 0 (MQ below (va_Qi (fun (q : Int32) (_ : Unit) => q = ρ) (fun _ t => va_P D vwCl (gWl shM cy ad σ') t.heap) A) args s 0 0 A) (F0 m 218 ls []) := by
    intro n
    induction n with
    | zero => intro x1 x3 s0 H locs ls h Y hl; exact (gnone h).elim
    | succ n hk218 =>
      have e : m_rules_L218 F  (n + 1) = m_rules_L218b F  (m_rules_L218 F  n) := rfl
      rw [e]; clear e
      generalize m_rules_L218 F  n = k218 at hk218 ⊢
      have b253 : ∀ (x1 : Int32) (x3 : Int32) (y1 : Int32) (y2 : Int32) (s0 : St) (H : Heap) (locs : List Loc) (ls : Array Slot), m_rules_J253 F k218 x1 x3 y1 y2 s0 = some (ρ, σ') → gY shM D cy ad A s0 s H locs → lv_has ls 4 [(0, .ref (ad 0)), (1, .int x1), (3, .int x3)] → W p l e (grm 3) s m args below meth c H locs 0 0 (MQ below (va_Qi (fun (q : Int32) (_ : Unit) => q = ρ) (fun _ t => va_P D vwCl (gWl shM cy ad σ') t.heap) A) args s 0 0 A) (F0 m 253 ls [.int y2, .int y1, .ref (ad 5)]) := by
        intro x1 x3 y1 y2 s0 H locs ls h Y hl
        unfold m_rules_J253 at h
        obtain ⟨hin, h⟩ := gI_if h
        refine gr_iast X G Y clM_5 hin (dck_at da_X12_rules 136 rfl) (fun H locs Y => ?_)
        refine lv_iinc (v := x3 + (1 : Int32)) (lv' := [(3, .int (x3 + (1 : Int32))), (0, .ref (ad 0)), (1, .int x1)]) X.1 X.2.1 (dck_at da_X12_rules 137 rfl) hl (k := 2) rfl (congrArg (HAdd.hAdd _) ki_1) (by decide) rfl (fun ls hl => ?_)
        refine lv_goto (tgt := 218) X.1 X.2.1 (dck_at da_X12_rules 138 rfl) rfl ?_
        exact hk218 x1 (x3 + (1 : Int32)) (sI s0 5 (y1).toNatClampNeg y2) _ _ _ h Y (lv_sub hl [1, 2, 0] rfl)
      intro x1 x3 s0 H locs ls h Y hl
      unfold m_rules_L218b at h
      refine lv_iload_n X.1 X.2.1 (dck_at da_X12_rules 116 rfl) rfl (lv_at hl 2 rfl) ?_
      refine lv_bipush X.1 X.2.1 (dck_at da_X12_rules 117 rfl) kb_6 ?_
      refine lv_icmp_ge (tgt := 260) X.1 X.2.1 (dck_at da_X12_rules 118 rfl) rfl (fun c => ?_) (fun c => ?_)
      · have h := gI_pos h c
        refine lv_iload_n X.1 X.2.1 (dck_at da_X12_rules 139 rfl) rfl (lv_at hl 1 rfl) ?_
        exact gr_iretO X Y h hr rfl hlk (dck_at da_X12_rules 140 rfl)
      · have h := gI_neg h c
        refine lv_aload_n X.1 X.2.1 (dck_at da_X12_rules 119 rfl) rfl (lv_at hl 0 rfl) ?_
        refine gr_getR X G Y fk_RX12_22 clM_0 rfl (dck_at da_X12_rules 120 rfl) ?_
        refine lv_iload_n X.1 X.2.1 (dck_at da_X12_rules 121 rfl) rfl (lv_at hl 2 rfl) ?_
        refine lv_aload_n X.1 X.2.1 (dck_at da_X12_rules 122 rfl) rfl (lv_at hl 0 rfl) ?_
        refine gr_getR X G Y fk_RX12_31 clM_0 rfl (dck_at da_X12_rules 123 rfl) ?_
        refine lv_iload_n X.1 X.2.1 (dck_at da_X12_rules 124 rfl) rfl (lv_at hl 2 rfl) ?_
        obtain ⟨hin, h⟩ := gI_if h
        refine gr_iald X G Y clM_8 hin (dck_at da_X12_rules 125 rfl) ?_
        refine lv_if_ge (tgt := 247) X.1 X.2.1 (dck_at da_X12_rules 126 rfl) rfl (fun c => ?_) (fun c => ?_)
        · have h := gI_pos h c
          refine lv_aload_n X.1 X.2.1 (dck_at da_X12_rules 132 rfl) rfl (lv_at hl 0 rfl) ?_
          refine gr_getR X G Y fk_RX12_31 clM_0 rfl (dck_at da_X12_rules 133 rfl) ?_
          refine lv_iload_n X.1 X.2.1 (dck_at da_X12_rules 134 rfl) rfl (lv_at hl 2 rfl) ?_
          obtain ⟨hin, h⟩ := gI_if h
          refine gr_iald X G Y clM_8 hin (dck_at da_X12_rules 135 rfl) ?_
          exact b253 x1 x3 x3 (s0.1 8 (x3).toNatClampNeg) s0 _ _ _ h Y (lv_sub hl [0, 1, 2] rfl)
        · have h := gI_neg h c
          refine lv_aload_n X.1 X.2.1 (dck_at da_X12_rules 127 rfl) rfl (lv_at hl 0 rfl) ?_
          refine gr_getR X G Y fk_RX12_22 clM_0 rfl (dck_at da_X12_rules 128 rfl) ?_
          refine lv_iload_n X.1 X.2.1 (dck_at da_X12_rules 129 rfl) rfl (lv_at hl 2 rfl) ?_
          obtain ⟨hin, h⟩ := gI_if h
          refine gr_iald X G Y clM_5 hin (dck_at da_X12_rules 130 rfl) ?_
          refine lv_goto (tgt := 253) X.1 X.2.1 (dck_at da_X12_rules 131 rfl) rfl ?_
          exact b253 x1 x3 x3 (s0.1 5 (x3).toNatClampNeg) s0 _ _ _ h Y (lv_sub hl [0, 1, 2] rfl)
  have b36 : ∀ n : Nat, ∀ (x1 : Int32) (x2 : Int32) (s0 : St) (H : Heap) (locs : List Loc) (ls : Array Slot), m_rules_L36 F  n x1 x2 s0 = some (ρ, σ') → gY shM D cy ad A s0 s H locs → lv_has ls 4 [(0, .ref (ad 0)), (1, .int x1), (2, .int x2)] → W p l e (grm 3) s m args below meth c H locs 0 0 (MQ below (va_Qi (fun (q : Int32) (_ : Unit) => q = ρ) (fun _ t => va_P D vwCl (gWl shM cy ad σ') t.heap) A) args s 0 0 A) (F0 m 36 ls []) := by
    intro n
    induction n with
    | zero => intro x1 x2 s0 H locs ls h Y hl; exact (gnone h).elim
    | succ n hk36 =>
      have e : m_rules_L36 F  (n + 1) = m_rules_L36b F  (m_rules_L36 F  n) := rfl
      rw [e]; clear e
      generalize m_rules_L36 F  n = k36 at hk36 ⊢
      have b188 : ∀ (x1 : Int32) (y0 : Int32) (s0 : St) (H : Heap) (locs : List Loc) (ls : Array Slot), m_rules_J188 F k36 x1 y0 s0 = some (ρ, σ') → gY shM D cy ad A s0 s H locs → lv_has ls 4 [(0, .ref (ad 0)), (1, .int x1)] → W p l e (grm 3) s m args below meth c H locs 0 0 (MQ below (va_Qi (fun (q : Int32) (_ : Unit) => q = ρ) (fun _ t => va_P D vwCl (gWl shM cy ad σ') t.heap) A) args s 0 0 A) (F0 m 188 ls [.int y0]) := by
        intro x1 y0 s0 H locs ls h Y hl
        unfold m_rules_J188 at h
        refine lv_istore_n (lv' := [(2, .int y0), (0, .ref (ad 0)), (1, .int x1)]) X.1 X.2.1 (dck_at da_X12_rules 99 rfl) rfl hl (by decide) rfl (fun ls hl => ?_)
        refine lv_goto (tgt := 36) X.1 X.2.1 (dck_at da_X12_rules 100 rfl) rfl ?_
        exact hk36 x1 y0 s0 _ _ _ h Y (lv_sub hl [1, 2, 0] rfl)
      have b187 : ∀ (x1 : Int32) (s0 : St) (H : Heap) (locs : List Loc) (ls : Array Slot), m_rules_J187 F k36 x1 s0 = some (ρ, σ') → gY shM D cy ad A s0 s H locs → lv_has ls 4 [(0, .ref (ad 0)), (1, .int x1)] → W p l e (grm 3) s m args below meth c H locs 0 0 (MQ below (va_Qi (fun (q : Int32) (_ : Unit) => q = ρ) (fun _ t => va_P D vwCl (gWl shM cy ad σ') t.heap) A) args s 0 0 A) (F0 m 187 ls []) := by
        intro x1 s0 H locs ls h Y hl
        unfold m_rules_J187 at h
        refine lv_iconst X.1 X.2.1 (dck_at da_X12_rules 98 rfl) ki_0 ?_
        exact b188 x1 (0 : Int32) s0 _ _ _ h Y (lv_sub hl [0, 1] rfl)
      have b169 : ∀ (x1 : Int32) (s0 : St) (H : Heap) (locs : List Loc) (ls : Array Slot), m_rules_J169 F k36 x1 s0 = some (ρ, σ') → gY shM D cy ad A s0 s H locs → lv_has ls 4 [(0, .ref (ad 0)), (1, .int x1)] → W p l e (grm 3) s m args below meth c H locs 0 0 (MQ below (va_Qi (fun (q : Int32) (_ : Unit) => q = ρ) (fun _ t => va_P D vwCl (gWl shM cy ad σ') t.heap) A) args s 0 0 A) (F0 m 169 ls []) := by
        intro x1 s0 H locs ls h Y hl
        unfold m_rules_J169 at h
        refine lv_aload_n X.1 X.2.1 (dck_at da_X12_rules 90 rfl) rfl (lv_at hl 0 rfl) ?_
        refine gr_getI X G Y fk_RX12_165 clM_0 rfl (dck_at da_X12_rules 91 rfl) ?_
        refine lv_if_ne (tgt := 187) X.1 X.2.1 (dck_at da_X12_rules 92 rfl) rfl (fun c => ?_) (fun c => ?_)
        · have h := gI_neg h c
          exact b187 x1 s0 _ _ _ h Y (lv_sub hl [0, 1] rfl)
        · have h := gI_pos h c
          refine lv_aload_n X.1 X.2.1 (dck_at da_X12_rules 93 rfl) rfl (lv_at hl 0 rfl) ?_
          obtain ⟨r1, s1, hc, h⟩ := gB2_some h
          refine gr_backi Y (gr_runV (as := []) (rest := []) X G Y (ok_m_here hc) cv_RX12_169 clM_0 ⟨Nat.le_of_ble_eq_true rfl, Nat.le_of_ble_eq_true rfl⟩ rfl hl.1 (Nat.le_of_ble_eq_true rfl) (dck_at da_X12_rules 94 rfl)) (fun H locs Y => ?_)
          refine lv_if_eq (tgt := 187) X.1 X.2.1 (dck_at da_X12_rules 95 rfl) rfl (fun c => ?_) (fun c => ?_)
          · have h := gI_pos h c
            exact b187 x1 s1 _ _ _ h Y (lv_sub hl [0, 1] rfl)
          · have h := gI_neg h c
            refine lv_iconst X.1 X.2.1 (dck_at da_X12_rules 96 rfl) ki_1 ?_
            refine lv_goto (tgt := 188) X.1 X.2.1 (dck_at da_X12_rules 97 rfl) rfl ?_
            exact b188 x1 (1 : Int32) s1 _ _ _ h Y (lv_sub hl [0, 1] rfl)
      have b162 : ∀ (x1 : Int32) (y1 : Int32) (y2 : Int32) (s0 : St) (H : Heap) (locs : List Loc) (ls : Array Slot), m_rules_J162 F k36 x1 y1 y2 s0 = some (ρ, σ') → gY shM D cy ad A s0 s H locs → lv_has ls 4 [(0, .ref (ad 0)), (1, .int x1)] → W p l e (grm 3) s m args below meth c H locs 0 0 (MQ below (va_Qi (fun (q : Int32) (_ : Unit) => q = ρ) (fun _ t => va_P D vwCl (gWl shM cy ad σ') t.heap) A) args s 0 0 A) (F0 m 162 ls [.int y2, .int y1, .ref (ad 0)]) := by
        intro x1 y1 y2 s0 H locs ls h Y hl
        unfold m_rules_J162 at h
        refine lv_iadd X.1 X.2.1 (dck_at da_X12_rules 87 rfl) ?_
        refine gr_putI X G Y fp_RX12_162 clM_0 rfl (dck_at da_X12_rules 88 rfl) (fun H locs Y => ?_)
        refine lv_iinc (v := x1 + (1 : Int32)) (lv' := [(1, .int (x1 + (1 : Int32))), (0, .ref (ad 0))]) X.1 X.2.1 (dck_at da_X12_rules 89 rfl) hl (k := 1) rfl (congrArg (HAdd.hAdd _) ki_1) (by decide) rfl (fun ls hl => ?_)
        exact b169 (x1 + (1 : Int32)) (sI s0 0 8 (y1 + y2)) _ _ _ h Y (lv_sub hl [1, 0] rfl)
      have b129 : ∀ (x1 : Int32) (x3 : Int32) (y1 : Int32) (s0 : St) (H : Heap) (locs : List Loc) (ls : Array Slot), m_rules_J129 F k36 x1 x3 y1 s0 = some (ρ, σ') → gY shM D cy ad A s0 s H locs → lv_has ls 4 [(0, .ref (ad 0)), (1, .int x1), (3, .int x3)] → W p l e (grm 3) s m args below meth c H locs 0 0 (MQ below (va_Qi (fun (q : Int32) (_ : Unit) => q = ρ) (fun _ t => va_P D vwCl (gWl shM cy ad σ') t.heap) A) args s 0 0 A) (F0 m 129 ls [.int y1, .ref (ad 0)]) := by
        intro x1 x3 y1 s0 H locs ls h Y hl
        unfold m_rules_J129 at h
        obtain ⟨hz, h⟩ := gI_if h
        refine gr_putZ X G Y hz fp_RX12_165 clM_0 rfl (dck_at da_X12_rules 69 rfl) (fun H locs Y => ?_)
        refine lv_aload_n X.1 X.2.1 (dck_at da_X12_rules 70 rfl) rfl (lv_at hl 0 rfl) ?_
        refine gr_getR X G Y fk_RX12_31 clM_0 rfl (dck_at da_X12_rules 71 rfl) ?_
        refine lv_iload_n X.1 X.2.1 (dck_at da_X12_rules 72 rfl) rfl (lv_at hl 2 rfl) ?_
        refine lv_aload_n X.1 X.2.1 (dck_at da_X12_rules 73 rfl) rfl (lv_at hl 0 rfl) ?_
        obtain ⟨r2, s2, hc, h⟩ := gB2_some h
        refine gr_backi Y (gr_runV (as := []) (rest := [.int x3, .ref (ad 8)]) X G Y (ok_m_here hc) cv_RX12_169 clM_0 ⟨Nat.le_of_ble_eq_true rfl, Nat.le_of_ble_eq_true rfl⟩ rfl hl.1 (Nat.le_of_ble_eq_true rfl) (dck_at da_X12_rules 74 rfl)) (fun H locs Y => ?_)
        refine lv_bipush X.1 X.2.1 (dck_at da_X12_rules 75 rfl) kb_48 ?_
        refine lv_isub X.1 X.2.1 (dck_at da_X12_rules 76 rfl) ?_
        obtain ⟨hin, h⟩ := gI_if h
        refine gr_iast X G Y clM_8 hin (dck_at da_X12_rules 77 rfl) (fun H locs Y => ?_)
        refine lv_aload_n X.1 X.2.1 (dck_at da_X12_rules 78 rfl) rfl (lv_at hl 0 rfl) ?_
        refine lv_dup X.1 X.2.1 (dck_at da_X12_rules 79 rfl) rfl ?_
        refine gr_getI X G Y fk_RX12_162 clM_0 rfl (dck_at da_X12_rules 80 rfl) ?_
        refine lv_aload_n X.1 X.2.1 (dck_at da_X12_rules 81 rfl) rfl (lv_at hl 0 rfl) ?_
        refine gr_getI X G Y fk_RX12_165 clM_0 rfl (dck_at da_X12_rules 82 rfl) ?_
        refine lv_if_eq (tgt := 161) X.1 X.2.1 (dck_at da_X12_rules 83 rfl) rfl (fun c => ?_) (fun c => ?_)
        · have h := gI_pos h c
          refine lv_iconst X.1 X.2.1 (dck_at da_X12_rules 86 rfl) ki_1 ?_
          exact b162 x1 ((sI s2 8 (x3).toNatClampNeg (r2 - (48 : Int32))).1 0 8) (1 : Int32) (sI s2 8 (x3).toNatClampNeg (r2 - (48 : Int32))) _ _ _ h Y (lv_sub hl [0, 1] rfl)
        · have h := gI_neg h c
          refine lv_iconst X.1 X.2.1 (dck_at da_X12_rules 84 rfl) ki_0 ?_
          refine lv_goto (tgt := 162) X.1 X.2.1 (dck_at da_X12_rules 85 rfl) rfl ?_
          exact b162 x1 ((sI s2 8 (x3).toNatClampNeg (r2 - (48 : Int32))).1 0 8) (0 : Int32) (sI s2 8 (x3).toNatClampNeg (r2 - (48 : Int32))) _ _ _ h Y (lv_sub hl [0, 1] rfl)
      have b95 : ∀ (x1 : Int32) (x3 : Int32) (y1 : Int32) (y2 : Int32) (s0 : St) (H : Heap) (locs : List Loc) (ls : Array Slot), m_rules_J95 F k36 x1 x3 y1 y2 s0 = some (ρ, σ') → gY shM D cy ad A s0 s H locs → lv_has ls 4 [(0, .ref (ad 0)), (1, .int x1), (3, .int x3)] → W p l e (grm 3) s m args below meth c H locs 0 0 (MQ below (va_Qi (fun (q : Int32) (_ : Unit) => q = ρ) (fun _ t => va_P D vwCl (gWl shM cy ad σ') t.heap) A) args s 0 0 A) (F0 m 95 ls [.int y2, .int y1, .ref (ad 0)]) := by
        intro x1 x3 y1 y2 s0 H locs ls h Y hl
        unfold m_rules_J95 at h
        refine lv_iadd X.1 X.2.1 (dck_at da_X12_rules 53 rfl) ?_
        refine gr_putI X G Y fp_RX12_162 clM_0 rfl (dck_at da_X12_rules 54 rfl) (fun H locs Y => ?_)
        refine lv_aload_n X.1 X.2.1 (dck_at da_X12_rules 55 rfl) rfl (lv_at hl 0 rfl) ?_
        refine gr_getI X G Y fk_RX12_165 clM_0 rfl (dck_at da_X12_rules 56 rfl) ?_
        refine lv_if_ne (tgt := 169) X.1 X.2.1 (dck_at da_X12_rules 57 rfl) rfl (fun c => ?_) (fun c => ?_)
        · have h := gI_neg h c
          exact b169 x1 (sI s0 0 8 (y1 + y2)) _ _ _ h Y (lv_sub hl [0, 1] rfl)
        · have h := gI_pos h c
          refine lv_aload_n X.1 X.2.1 (dck_at da_X12_rules 58 rfl) rfl (lv_at hl 0 rfl) ?_
          refine lv_aload_n X.1 X.2.1 (dck_at da_X12_rules 59 rfl) rfl (lv_at hl 0 rfl) ?_
          obtain ⟨r3, s3, hc, h⟩ := gB2_some h
          refine gr_backi Y (gr_runV (as := []) (rest := [.ref (ad 0)]) X G Y (ok_m_here hc) cv_RX12_169 clM_0 ⟨Nat.le_of_ble_eq_true rfl, Nat.le_of_ble_eq_true rfl⟩ rfl hl.1 (Nat.le_of_ble_eq_true rfl) (dck_at da_X12_rules 60 rfl)) (fun H locs Y => ?_)
          refine lv_i2l (v := (r3).toInt64) X.1 X.2.1 (dck_at da_X12_rules 61 rfl) rfl ?_
          refine lv_ldc2 X.1 X.2.1 X.2.2.2.1 (X.2.2.2.2 _ wm_1364) (dck_at da_X12_rules 62 rfl) ?_
          refine lv_ldc2 X.1 X.2.1 X.2.2.2.1 (X.2.2.2.2 _ wm_1352) (dck_at da_X12_rules 63 rfl) ?_
          obtain ⟨r4, s4, hc, h⟩ := gB2_some h
          refine gr_backi Y (gr_runS (as := [.long ((r3).toInt64), .long (48 : Int64), .long (57 : Int64)]) (rest := [.ref (ad 0)]) X G Y (ok_m_in hc) cs_RX12_126 ⟨Nat.le_of_ble_eq_true rfl, Nat.le_of_ble_eq_true rfl⟩ rfl hl.1 (Nat.le_of_ble_eq_true rfl) (dck_at da_X12_rules 64 rfl)) (fun H locs Y => ?_)
          refine lv_if_ne (tgt := 128) X.1 X.2.1 (dck_at da_X12_rules 65 rfl) rfl (fun c => ?_) (fun c => ?_)
          · have h := gI_neg h c
            refine lv_iconst X.1 X.2.1 (dck_at da_X12_rules 68 rfl) ki_0 ?_
            exact b129 x1 x3 (0 : Int32) s4 _ _ _ h Y (lv_sub hl [0, 1, 2] rfl)
          · have h := gI_pos h c
            refine lv_iconst X.1 X.2.1 (dck_at da_X12_rules 66 rfl) ki_1 ?_
            refine lv_goto (tgt := 129) X.1 X.2.1 (dck_at da_X12_rules 67 rfl) rfl ?_
            exact b129 x1 x3 (1 : Int32) s4 _ _ _ h Y (lv_sub hl [0, 1, 2] rfl)
      have b75 : ∀ (x1 : Int32) (x3 : Int32) (y1 : Int32) (s0 : St) (H : Heap) (locs : List Loc) (ls : Array Slot), m_rules_J75 F k36 x1 x3 y1 s0 = some (ρ, σ') → gY shM D cy ad A s0 s H locs → lv_has ls 4 [(0, .ref (ad 0)), (1, .int x1), (3, .int x3)] → W p l e (grm 3) s m args below meth c H locs 0 0 (MQ below (va_Qi (fun (q : Int32) (_ : Unit) => q = ρ) (fun _ t => va_P D vwCl (gWl shM cy ad σ') t.heap) A) args s 0 0 A) (F0 m 75 ls [.int y1, .ref (ad 0)]) := by
        intro x1 x3 y1 s0 H locs ls h Y hl
        unfold m_rules_J75 at h
        obtain ⟨hz, h⟩ := gI_if h
        refine gr_putZ X G Y hz fp_RX12_165 clM_0 rfl (dck_at da_X12_rules 43 rfl) (fun H locs Y => ?_)
        refine lv_aload_n X.1 X.2.1 (dck_at da_X12_rules 44 rfl) rfl (lv_at hl 0 rfl) ?_
        refine lv_dup X.1 X.2.1 (dck_at da_X12_rules 45 rfl) rfl ?_
        refine gr_getI X G Y fk_RX12_162 clM_0 rfl (dck_at da_X12_rules 46 rfl) ?_
        refine lv_aload_n X.1 X.2.1 (dck_at da_X12_rules 47 rfl) rfl (lv_at hl 0 rfl) ?_
        refine gr_getI X G Y fk_RX12_165 clM_0 rfl (dck_at da_X12_rules 48 rfl) ?_
        refine lv_if_eq (tgt := 94) X.1 X.2.1 (dck_at da_X12_rules 49 rfl) rfl (fun c => ?_) (fun c => ?_)
        · have h := gI_pos h c
          refine lv_iconst X.1 X.2.1 (dck_at da_X12_rules 52 rfl) ki_1 ?_
          exact b95 x1 x3 ((sI s0 0 9 y1).1 0 8) (1 : Int32) (sI s0 0 9 y1) _ _ _ h Y (lv_sub hl [0, 1, 2] rfl)
        · have h := gI_neg h c
          refine lv_iconst X.1 X.2.1 (dck_at da_X12_rules 50 rfl) ki_0 ?_
          refine lv_goto (tgt := 95) X.1 X.2.1 (dck_at da_X12_rules 51 rfl) rfl ?_
          exact b95 x1 x3 ((sI s0 0 9 y1).1 0 8) (0 : Int32) (sI s0 0 9 y1) _ _ _ h Y (lv_sub hl [0, 1, 2] rfl)
      have b70 : ∀ (x1 : Int32) (x3 : Int32) (s0 : St) (H : Heap) (locs : List Loc) (ls : Array Slot), m_rules_J70 F k36 x1 x3 s0 = some (ρ, σ') → gY shM D cy ad A s0 s H locs → lv_has ls 4 [(0, .ref (ad 0)), (1, .int x1), (3, .int x3)] → W p l e (grm 3) s m args below meth c H locs 0 0 (MQ below (va_Qi (fun (q : Int32) (_ : Unit) => q = ρ) (fun _ t => va_P D vwCl (gWl shM cy ad σ') t.heap) A) args s 0 0 A) (F0 m 70 ls [.ref (ad 0)]) := by
        intro x1 x3 s0 H locs ls h Y hl
        unfold m_rules_J70 at h
        refine lv_iconst X.1 X.2.1 (dck_at da_X12_rules 40 rfl) ki_1 ?_
        refine lv_goto (tgt := 75) X.1 X.2.1 (dck_at da_X12_rules 41 rfl) rfl ?_
        exact b75 x1 x3 (1 : Int32) s0 _ _ _ h Y (lv_sub hl [0, 1, 2] rfl)
      have b66 : ∀ (x1 : Int32) (x3 : Int32) (y2 : Int32) (s0 : St) (H : Heap) (locs : List Loc) (ls : Array Slot), m_rules_J66 F k36 x1 x3 y2 s0 = some (ρ, σ') → gY shM D cy ad A s0 s H locs → lv_has ls 4 [(0, .ref (ad 0)), (1, .int x1), (3, .int x3)] → W p l e (grm 3) s m args below meth c H locs 0 0 (MQ below (va_Qi (fun (q : Int32) (_ : Unit) => q = ρ) (fun _ t => va_P D vwCl (gWl shM cy ad σ') t.heap) A) args s 0 0 A) (F0 m 66 ls [.int y2, .ref (ad 8), .ref (ad 0)]) := by
        intro x1 x3 y2 s0 H locs ls h Y hl
        unfold m_rules_J66 at h
        obtain ⟨hin, h⟩ := gI_if h
        refine gr_iald X G Y clM_8 hin (dck_at da_X12_rules 38 rfl) ?_
        refine lv_if_lt (tgt := 74) X.1 X.2.1 (dck_at da_X12_rules 39 rfl) rfl (fun c => ?_) (fun c => ?_)
        · have h := gI_pos h c
          refine lv_iconst X.1 X.2.1 (dck_at da_X12_rules 42 rfl) ki_0 ?_
          exact b75 x1 x3 (0 : Int32) s0 _ _ _ h Y (lv_sub hl [0, 1, 2] rfl)
        · have h := gI_neg h c
          exact b70 x1 x3 s0 _ _ _ h Y (lv_sub hl [0, 1, 2] rfl)
      intro x1 x2 s0 H locs ls h Y hl
      unfold m_rules_L36b at h
      refine lv_iload_n X.1 X.2.1 (dck_at da_X12_rules 22 rfl) rfl (lv_at hl 2 rfl) ?_
      refine lv_if_eq (tgt := 192) X.1 X.2.1 (dck_at da_X12_rules 23 rfl) rfl (fun c => ?_) (fun c => ?_)
      · have h := gI_pos h c
        refine lv_aload_n X.1 X.2.1 (dck_at da_X12_rules 101 rfl) rfl (lv_at hl 0 rfl) ?_
        refine lv_iconst X.1 X.2.1 (dck_at da_X12_rules 102 rfl) ki_0 ?_
        refine gr_putI X G Y fp_RX12_159 clM_0 rfl (dck_at da_X12_rules 103 rfl) (fun H locs Y => ?_)
        refine lv_aload_n X.1 X.2.1 (dck_at da_X12_rules 104 rfl) rfl (lv_at hl 0 rfl) ?_
        refine gr_getI X G Y fk_RX12_165 clM_0 rfl (dck_at da_X12_rules 105 rfl) ?_
        refine lv_if_eq (tgt := 216) X.1 X.2.1 (dck_at da_X12_rules 106 rfl) rfl (fun c => ?_) (fun c => ?_)
        · have h := gI_pos h c
          refine lv_iconst X.1 X.2.1 (dck_at da_X12_rules 114 rfl) ki_0 ?_
          refine lv_istore_n (lv' := [(3, .int (0 : Int32)), (0, .ref (ad 0)), (1, .int x1), (2, .int x2)]) X.1 X.2.1 (dck_at da_X12_rules 115 rfl) rfl hl (by decide) rfl (fun ls hl => ?_)
          exact b218 F x1 (0 : Int32) (sI s0 0 7 (0 : Int32)) _ _ _ h Y (lv_sub hl [1, 2, 0] rfl)
        · have h := gI_neg h c
          refine lv_aload_n X.1 X.2.1 (dck_at da_X12_rules 107 rfl) rfl (lv_at hl 0 rfl) ?_
          refine lv_bipush X.1 X.2.1 (dck_at da_X12_rules 108 rfl) kb_m20 ?_
          refine lv_aload_n X.1 X.2.1 (dck_at da_X12_rules 109 rfl) rfl (lv_at hl 0 rfl) ?_
          refine gr_getI X G Y fk_RX12_162 clM_0 rfl (dck_at da_X12_rules 110 rfl) ?_
          refine lv_isub X.1 X.2.1 (dck_at da_X12_rules 111 rfl) ?_
          obtain ⟨r5, s5, hc, h⟩ := gB2_some h
          refine gr_backi Y (gr_runV (as := [.int ((-20 : Int32) - ((sI s0 0 7 (0 : Int32)).1 0 8))]) (rest := []) X G Y (ok_m_tells hc) cv_RX12_130 clM_0 ⟨Nat.le_of_ble_eq_true rfl, Nat.le_of_ble_eq_true rfl⟩ rfl hl.1 (Nat.le_of_ble_eq_true rfl) (dck_at da_X12_rules 112 rfl)) (fun H locs Y => ?_)
          exact gr_iretO X Y h hr rfl hlk (dck_at da_X12_rules 113 rfl)
      · have h := gI_neg h c
        refine lv_aload_n X.1 X.2.1 (dck_at da_X12_rules 24 rfl) rfl (lv_at hl 0 rfl) ?_
        obtain ⟨r6, s6, hc, h⟩ := gB2_some h
        refine gr_backi Y (gr_runV (as := []) (rest := []) X G Y (ok_m_here hc) cv_RX12_169 clM_0 ⟨Nat.le_of_ble_eq_true rfl, Nat.le_of_ble_eq_true rfl⟩ rfl hl.1 (Nat.le_of_ble_eq_true rfl) (dck_at da_X12_rules 25 rfl)) (fun H locs Y => ?_)
        obtain ⟨r7, s7, hc, h⟩ := gB2_some h
        refine gr_backi Y (gr_runS (as := [.int r6]) (rest := []) X G Y (ok_m_settingOf hc) cs_RX12_186 ⟨Nat.le_of_ble_eq_true rfl, Nat.le_of_ble_eq_true rfl⟩ rfl hl.1 (Nat.le_of_ble_eq_true rfl) (dck_at da_X12_rules 26 rfl)) (fun H locs Y => ?_)
        refine lv_istore_n (lv' := [(3, .int r7), (0, .ref (ad 0)), (1, .int x1), (2, .int x2)]) X.1 X.2.1 (dck_at da_X12_rules 27 rfl) rfl hl (by decide) rfl (fun ls hl => ?_)
        refine lv_aload_n X.1 X.2.1 (dck_at da_X12_rules 28 rfl) rfl (lv_at hl 1 rfl) ?_
        refine lv_iload_n X.1 X.2.1 (dck_at da_X12_rules 29 rfl) rfl (lv_at hl 0 rfl) ?_
        refine lv_if_lt (tgt := 70) X.1 X.2.1 (dck_at da_X12_rules 30 rfl) rfl (fun c => ?_) (fun c => ?_)
        · have h := gI_pos h c
          exact b70 x1 r7 s7 _ _ _ h Y (lv_sub hl [1, 2, 0] rfl)
        · have h := gI_neg h c
          refine lv_aload_n X.1 X.2.1 (dck_at da_X12_rules 31 rfl) rfl (lv_at hl 1 rfl) ?_
          refine gr_getR X G Y fk_RX12_31 clM_0 rfl (dck_at da_X12_rules 32 rfl) ?_
          refine lv_iload_n X.1 X.2.1 (dck_at da_X12_rules 33 rfl) rfl (lv_at hl 0 rfl) ?_
          refine lv_if_ge (tgt := 65) X.1 X.2.1 (dck_at da_X12_rules 34 rfl) rfl (fun c => ?_) (fun c => ?_)
          · have h := gI_pos h c
            refine lv_iload_n X.1 X.2.1 (dck_at da_X12_rules 37 rfl) rfl (lv_at hl 0 rfl) ?_
            exact b66 x1 r7 r7 s7 _ _ _ h Y (lv_sub hl [1, 2, 0] rfl)
          · have h := gI_neg h c
            refine lv_iconst X.1 X.2.1 (dck_at da_X12_rules 35 rfl) ki_0 ?_
            refine lv_goto (tgt := 66) X.1 X.2.1 (dck_at da_X12_rules 36 rfl) rfl ?_
            exact b66 x1 r7 (0 : Int32) s7 _ _ _ h Y (lv_sub hl [1, 2, 0] rfl)
  have b12 : ∀ n : Nat, ∀ (x1 : Int32) (s0 : St) (H : Heap) (locs : List Loc) (ls : Array Slot), m_rules_L12 F  n x1 s0 = some (ρ, σ') → gY shM D cy ad A s0 s H locs → lv_has ls 4 [(0, .ref (ad 0)), (1, .int x1)] → W p l e (grm 3) s m args below meth c H locs 0 0 (MQ below (va_Qi (fun (q : Int32) (_ : Unit) => q = ρ) (fun _ t => va_P D vwCl (gWl shM cy ad σ') t.heap) A) args s 0 0 A) (F0 m 12 ls []) := by
    intro n
    induction n with
    | zero => intro x1 s0 H locs ls h Y hl; exact (gnone h).elim
    | succ n hk12 =>
      have e : m_rules_L12 F  (n + 1) = m_rules_L12b F  (m_rules_L12 F  n) := rfl
      rw [e]; clear e
      generalize m_rules_L12 F  n = k12 at hk12 ⊢
      intro x1 s0 H locs ls h Y hl
      unfold m_rules_L12b at h
      refine lv_iload_n X.1 X.2.1 (dck_at da_X12_rules 8 rfl) rfl (lv_at hl 1 rfl) ?_
      refine lv_bipush X.1 X.2.1 (dck_at da_X12_rules 9 rfl) kb_6 ?_
      refine lv_icmp_ge (tgt := 32) X.1 X.2.1 (dck_at da_X12_rules 10 rfl) rfl (fun c => ?_) (fun c => ?_)
      · have h := gI_pos h c
        refine lv_iconst X.1 X.2.1 (dck_at da_X12_rules 18 rfl) ki_0 ?_
        refine lv_istore_n (lv' := [(1, .int (0 : Int32)), (0, .ref (ad 0))]) X.1 X.2.1 (dck_at da_X12_rules 19 rfl) rfl hl (by decide) rfl (fun ls hl => ?_)
        refine lv_iconst X.1 X.2.1 (dck_at da_X12_rules 20 rfl) ki_1 ?_
        refine lv_istore_n (lv' := [(2, .int (1 : Int32)), (1, .int (0 : Int32)), (0, .ref (ad 0))]) X.1 X.2.1 (dck_at da_X12_rules 21 rfl) rfl hl (by decide) rfl (fun ls hl => ?_)
        exact b36 F (0 : Int32) (1 : Int32) s0 _ _ _ h Y (lv_sub hl [2, 1, 0] rfl)
      · have h := gI_neg h c
        refine lv_aload_n X.1 X.2.1 (dck_at da_X12_rules 11 rfl) rfl (lv_at hl 0 rfl) ?_
        refine gr_getR X G Y fk_RX12_31 clM_0 rfl (dck_at da_X12_rules 12 rfl) ?_
        refine lv_iload_n X.1 X.2.1 (dck_at da_X12_rules 13 rfl) rfl (lv_at hl 1 rfl) ?_
        refine lv_bipush X.1 X.2.1 (dck_at da_X12_rules 14 rfl) kb_m4 ?_
        obtain ⟨hin, h⟩ := gI_if h
        refine gr_iast X G Y clM_8 hin (dck_at da_X12_rules 15 rfl) (fun H locs Y => ?_)
        refine lv_iinc (v := x1 + (1 : Int32)) (lv' := [(1, .int (x1 + (1 : Int32))), (0, .ref (ad 0))]) X.1 X.2.1 (dck_at da_X12_rules 16 rfl) hl (k := 1) rfl (congrArg (HAdd.hAdd _) ki_1) (by decide) rfl (fun ls hl => ?_)
        refine lv_goto (tgt := 12) X.1 X.2.1 (dck_at da_X12_rules 17 rfl) rfl ?_
        exact hk12 (x1 + (1 : Int32)) (sI s0 8 (x1).toNatClampNeg (-4 : Int32)) _ _ _ h Y (lv_sub hl [1, 0] rfl)
  unfold m_rules at h
  refine lv_aload_n X.1 X.2.1 (dck_at da_X12_rules 0 rfl) rfl (lv_at hl 0 rfl) ?_
  refine lv_iconst X.1 X.2.1 (dck_at da_X12_rules 1 rfl) ki_0 ?_
  refine gr_putI X G Y fp_RX12_162 clM_0 rfl (dck_at da_X12_rules 2 rfl) (fun H locs Y => ?_)
  refine lv_aload_n X.1 X.2.1 (dck_at da_X12_rules 3 rfl) rfl (lv_at hl 0 rfl) ?_
  refine lv_iconst X.1 X.2.1 (dck_at da_X12_rules 4 rfl) ki_0 ?_
  refine gr_putZ X G Y (by decide) fp_RX12_165 clM_0 rfl (dck_at da_X12_rules 5 rfl) (fun H locs Y => ?_)
  refine lv_iconst X.1 X.2.1 (dck_at da_X12_rules 6 rfl) ki_0 ?_
  refine lv_istore_n (lv' := [(1, .int (0 : Int32)), (0, .ref (ad 0))]) X.1 X.2.1 (dck_at da_X12_rules 7 rfl) rfl hl (by decide) rfl (fun ls hl => ?_)
  exact b12 F (0 : Int32) (sI (sI s0 0 8 (0 : Int32)) 0 9 (0 : Int32)) _ _ _ h Y (lv_sub hl [1, 0] rfl)
set_option maxRecDepth 100000 in
set_option maxHeartbeats 4000000 in
theorem ok_m_start {l : Launch} {D : va_G} {cy : Nat → ClassId} {ad sa : Nat → Nat} {A : Nat → Prop} {F : Nat} {a1 : Int32} {a2 : Int32} {s0 : St} {ρ : Int32} {σ' : St} (h : m_start F a1 a2 s0 = some (ρ, σ')) : gMi l shM D cy ad sa A yX12_start cX12_start 4 (some .int) 3 [.ref (ad 0), .int a1, .int a2] s0 ρ σ' := by
  refine gM_of (by decide) (Nat.le_of_ble_eq_true rfl) ?_
  intro p e s m args below meth c ls X G Y hr hlk hl
  have hl : lv_has ls 4 [(0, .ref (ad 0)), (1, .int a1), (2, .int a2)] := hl
  have b19 : ∀  (s0 : St) (H : Heap) (locs : List Loc) (ls : Array Slot), m_start_J19 F  s0 = some (ρ, σ') → gY shM D cy ad A s0 s H locs → lv_has ls 4 [(0, .ref (ad 0))] → W p l e (grm 3) s m args below meth c H locs 0 0 (MQ below (va_Qi (fun (q : Int32) (_ : Unit) => q = ρ) (fun _ t => va_P D vwCl (gWl shM cy ad σ') t.heap) A) args s 0 0 A) (F0 m 19 ls []) := by
    intro s0 H locs ls h Y hl
    unfold m_start_J19 at h
    refine lv_aload_n X.1 X.2.1 (dck_at da_X12_start 9 rfl) rfl (lv_at hl 0 rfl) ?_
    refine lv_iconst X.1 X.2.1 (dck_at da_X12_start 10 rfl) ki_m1 ?_
    obtain ⟨r1, s1, hc, h⟩ := gB2_some h
    refine gr_backi Y (gr_runV (as := [.int (-1 : Int32)]) (rest := []) X G Y (ok_m_tells hc) cv_RX12_130 clM_0 ⟨Nat.le_of_ble_eq_true rfl, Nat.le_of_ble_eq_true rfl⟩ rfl hl.1 (Nat.le_of_ble_eq_true rfl) (dck_at da_X12_start 11 rfl)) (fun H locs Y => ?_)
    exact gr_iretO X Y h hr rfl hlk (dck_at da_X12_start 12 rfl)
  have b45 : ∀  (s0 : St) (H : Heap) (locs : List Loc) (ls : Array Slot), m_start_J45 F  s0 = some (ρ, σ') → gY shM D cy ad A s0 s H locs → lv_has ls 4 [(0, .ref (ad 0))] → W p l e (grm 3) s m args below meth c H locs 0 0 (MQ below (va_Qi (fun (q : Int32) (_ : Unit) => q = ρ) (fun _ t => va_P D vwCl (gWl shM cy ad σ') t.heap) A) args s 0 0 A) (F0 m 45 ls []) := by
    intro s0 H locs ls h Y hl
    unfold m_start_J45 at h
    refine lv_aload_n X.1 X.2.1 (dck_at da_X12_start 25 rfl) rfl (lv_at hl 0 rfl) ?_
    refine lv_bipush X.1 X.2.1 (dck_at da_X12_start 26 rfl) kb_m2 ?_
    obtain ⟨r2, s2, hc, h⟩ := gB2_some h
    refine gr_backi Y (gr_runV (as := [.int (-2 : Int32)]) (rest := []) X G Y (ok_m_tells hc) cv_RX12_130 clM_0 ⟨Nat.le_of_ble_eq_true rfl, Nat.le_of_ble_eq_true rfl⟩ rfl hl.1 (Nat.le_of_ble_eq_true rfl) (dck_at da_X12_start 27 rfl)) (fun H locs Y => ?_)
    exact gr_iretO X Y h hr rfl hlk (dck_at da_X12_start 28 rfl)
  have b76 : ∀ n : Nat, ∀ (x1 : Int32) (x2 : Int32) (x3 : Int32) (s0 : St) (H : Heap) (locs : List Loc) (ls : Array Slot), m_start_L76 F  n x1 x2 x3 s0 = some (ρ, σ') → gY shM D cy ad A s0 s H locs → lv_has ls 4 [(0, .ref (ad 0)), (1, .int x1), (2, .int x2), (3, .int x3)] → W p l e (grm 3) s m args below meth c H locs 0 0 (MQ below (va_Qi (fun (q : Int32) (_ : Unit) => q = ρ) (fun _ t => va_P D vwCl (gWl shM cy ad σ') t.heap) A) args s 0 0 A) (F0 m 76 ls []) := by
    intro n
    induction n with
    | zero => intro x1 x2 x3 s0 H locs ls h Y hl; exact (gnone h).elim
    | succ n hk76 =>
      have e : m_start_L76 F  (n + 1) = m_start_L76b F  (m_start_L76 F  n) := rfl
      rw [e]; clear e
      generalize m_start_L76 F  n = k76 at hk76 ⊢
      intro x1 x2 x3 s0 H locs ls h Y hl
      unfold m_start_L76b at h
      refine lv_iload_n X.1 X.2.1 (dck_at da_X12_start 43 rfl) rfl (lv_at hl 3 rfl) ?_
      refine lv_sipush X.1 X.2.1 (dck_at da_X12_start 44 rfl) ks_144 ?_
      refine lv_icmp_ge (tgt := 96) X.1 X.2.1 (dck_at da_X12_start 45 rfl) rfl (fun c => ?_) (fun c => ?_)
      · have h := gI_pos h c
        refine lv_aload_n X.1 X.2.1 (dck_at da_X12_start 53 rfl) rfl (lv_at hl 0 rfl) ?_
        refine gr_getR X G Y fk_RX12_34 clM_0 rfl (dck_at da_X12_start 54 rfl) ?_
        refine lv_iconst X.1 X.2.1 (dck_at da_X12_start 55 rfl) ki_5 ?_
        refine lv_iload_n X.1 X.2.1 (dck_at da_X12_start 56 rfl) rfl (lv_at hl 1 rfl) ?_
        refine lv_imul X.1 X.2.1 (dck_at da_X12_start 57 rfl) ?_
        refine lv_iload_n X.1 X.2.1 (dck_at da_X12_start 58 rfl) rfl (lv_at hl 2 rfl) ?_
        refine lv_iadd X.1 X.2.1 (dck_at da_X12_start 59 rfl) ?_
        refine lv_ldc2 X.1 X.2.1 X.2.2.2.1 (X.2.2.2.2 _ wm_1369) (dck_at da_X12_start 60 rfl) ?_
        obtain ⟨hin, h⟩ := gI_if h
        refine gr_last X G Y clM_9 hin (dck_at da_X12_start 61 rfl) (fun H locs Y => ?_)
        refine lv_aload_n X.1 X.2.1 (dck_at da_X12_start 62 rfl) rfl (lv_at hl 0 rfl) ?_
        refine lv_iconst X.1 X.2.1 (dck_at da_X12_start 63 rfl) ki_0 ?_
        refine gr_putI X G Y fp_RX12_107 clM_0 rfl (dck_at da_X12_start 64 rfl) (fun H locs Y => ?_)
        refine lv_iconst X.1 X.2.1 (dck_at da_X12_start 65 rfl) ki_1 ?_
        exact gr_iretO X Y h hr rfl hlk (dck_at da_X12_start 66 rfl)
      · have h := gI_neg h c
        refine lv_aload_n X.1 X.2.1 (dck_at da_X12_start 46 rfl) rfl (lv_at hl 0 rfl) ?_
        refine gr_getR X G Y fk_RX12_19 clM_0 rfl (dck_at da_X12_start 47 rfl) ?_
        refine lv_iload_n X.1 X.2.1 (dck_at da_X12_start 48 rfl) rfl (lv_at hl 3 rfl) ?_
        refine lv_iconst X.1 X.2.1 (dck_at da_X12_start 49 rfl) ki_0 ?_
        obtain ⟨hin, h⟩ := gI_if h
        refine gr_iast X G Y clM_4 hin (dck_at da_X12_start 50 rfl) (fun H locs Y => ?_)
        refine lv_iinc (v := x3 + (1 : Int32)) (lv' := [(3, .int (x3 + (1 : Int32))), (0, .ref (ad 0)), (1, .int x1), (2, .int x2)]) X.1 X.2.1 (dck_at da_X12_start 51 rfl) hl (k := 3) rfl (congrArg (HAdd.hAdd _) ki_1) (by decide) rfl (fun ls hl => ?_)
        refine lv_goto (tgt := 76) X.1 X.2.1 (dck_at da_X12_start 52 rfl) rfl ?_
        exact hk76 x1 x2 (x3 + (1 : Int32)) (sI s0 4 (x3).toNatClampNeg (0 : Int32)) _ _ _ h Y (lv_sub hl [1, 2, 3, 0] rfl)
  have b54 : ∀ n : Nat, ∀ (x1 : Int32) (x2 : Int32) (x3 : Int32) (s0 : St) (H : Heap) (locs : List Loc) (ls : Array Slot), m_start_L54 F  n x1 x2 x3 s0 = some (ρ, σ') → gY shM D cy ad A s0 s H locs → lv_has ls 4 [(0, .ref (ad 0)), (1, .int x1), (2, .int x2), (3, .int x3)] → W p l e (grm 3) s m args below meth c H locs 0 0 (MQ below (va_Qi (fun (q : Int32) (_ : Unit) => q = ρ) (fun _ t => va_P D vwCl (gWl shM cy ad σ') t.heap) A) args s 0 0 A) (F0 m 54 ls []) := by
    intro n
    induction n with
    | zero => intro x1 x2 x3 s0 H locs ls h Y hl; exact (gnone h).elim
    | succ n hk54 =>
      have e : m_start_L54 F  (n + 1) = m_start_L54b F  (m_start_L54 F  n) := rfl
      rw [e]; clear e
      generalize m_start_L54 F  n = k54 at hk54 ⊢
      intro x1 x2 x3 s0 H locs ls h Y hl
      unfold m_start_L54b at h
      refine lv_iload_n X.1 X.2.1 (dck_at da_X12_start 31 rfl) rfl (lv_at hl 3 rfl) ?_
      refine lv_sipush X.1 X.2.1 (dck_at da_X12_start 32 rfl) ks_720 ?_
      refine lv_icmp_ge (tgt := 74) X.1 X.2.1 (dck_at da_X12_start 33 rfl) rfl (fun c => ?_) (fun c => ?_)
      · have h := gI_pos h c
        refine lv_iconst X.1 X.2.1 (dck_at da_X12_start 41 rfl) ki_0 ?_
        refine lv_istore_n (lv' := [(3, .int (0 : Int32)), (0, .ref (ad 0)), (1, .int x1), (2, .int x2)]) X.1 X.2.1 (dck_at da_X12_start 42 rfl) rfl hl (by decide) rfl (fun ls hl => ?_)
        exact b76 F x1 x2 (0 : Int32) s0 _ _ _ h Y (lv_sub hl [1, 2, 3, 0] rfl)
      · have h := gI_neg h c
        refine lv_aload_n X.1 X.2.1 (dck_at da_X12_start 34 rfl) rfl (lv_at hl 0 rfl) ?_
        refine gr_getR X G Y fk_RX12_34 clM_0 rfl (dck_at da_X12_start 35 rfl) ?_
        refine lv_iload_n X.1 X.2.1 (dck_at da_X12_start 36 rfl) rfl (lv_at hl 3 rfl) ?_
        refine lv_lconst (v := 0) X.1 X.2.1 (dck_at da_X12_start 37 rfl) rfl ?_
        obtain ⟨hin, h⟩ := gI_if h
        refine gr_last X G Y clM_9 hin (dck_at da_X12_start 38 rfl) (fun H locs Y => ?_)
        refine lv_iinc (v := x3 + (1 : Int32)) (lv' := [(3, .int (x3 + (1 : Int32))), (0, .ref (ad 0)), (1, .int x1), (2, .int x2)]) X.1 X.2.1 (dck_at da_X12_start 39 rfl) hl (k := 3) rfl (congrArg (HAdd.hAdd _) ki_1) (by decide) rfl (fun ls hl => ?_)
        refine lv_goto (tgt := 54) X.1 X.2.1 (dck_at da_X12_start 40 rfl) rfl ?_
        exact hk54 x1 x2 (x3 + (1 : Int32)) (sJ s0 9 (x3).toNatClampNeg (0 : Int64)) _ _ _ h Y (lv_sub hl [1, 2, 3, 0] rfl)
  unfold m_start at h
  refine lv_iload_n X.1 X.2.1 (dck_at da_X12_start 0 rfl) rfl (lv_at hl 1 rfl) ?_
  obtain ⟨r3, s3, hc, h⟩ := gB2_some h
  refine gr_backi Y (gr_runS (as := [.int a1]) (rest := []) X G Y (ok_m_isCell hc) cs_RX12_138 ⟨Nat.le_of_ble_eq_true rfl, Nat.le_of_ble_eq_true rfl⟩ rfl hl.1 (Nat.le_of_ble_eq_true rfl) (dck_at da_X12_start 1 rfl)) (fun H locs Y => ?_)
  refine lv_if_eq (tgt := 19) X.1 X.2.1 (dck_at da_X12_start 2 rfl) rfl (fun c => ?_) (fun c => ?_)
  · have h := gI_pos h c
    exact b19 s3 _ _ _ h Y (lv_sub hl [0] rfl)
  · have h := gI_neg h c
    refine lv_iload_n X.1 X.2.1 (dck_at da_X12_start 3 rfl) rfl (lv_at hl 2 rfl) ?_
    refine lv_i2l (v := (a2).toInt64) X.1 X.2.1 (dck_at da_X12_start 4 rfl) rfl ?_
    refine lv_lconst (v := 0) X.1 X.2.1 (dck_at da_X12_start 5 rfl) rfl ?_
    refine lv_ldc2 X.1 X.2.1 X.2.2.2.1 (X.2.2.2.2 _ wm_1323) (dck_at da_X12_start 6 rfl) ?_
    obtain ⟨r4, s4, hc, h⟩ := gB2_some h
    refine gr_backi Y (gr_runS (as := [.long ((a2).toInt64), .long (0 : Int64), .long (3 : Int64)]) (rest := []) X G Y (ok_m_in hc) cs_RX12_126 ⟨Nat.le_of_ble_eq_true rfl, Nat.le_of_ble_eq_true rfl⟩ rfl hl.1 (Nat.le_of_ble_eq_true rfl) (dck_at da_X12_start 7 rfl)) (fun H locs Y => ?_)
    refine lv_if_ne (tgt := 25) X.1 X.2.1 (dck_at da_X12_start 8 rfl) rfl (fun c => ?_) (fun c => ?_)
    · have h := gI_neg h c
      refine lv_aload_n X.1 X.2.1 (dck_at da_X12_start 13 rfl) rfl (lv_at hl 0 rfl) ?_
      refine gr_getR X G Y fk_RX12_13 clM_0 rfl (dck_at da_X12_start 14 rfl) ?_
      refine lv_iload_n X.1 X.2.1 (dck_at da_X12_start 15 rfl) rfl (lv_at hl 1 rfl) ?_
      obtain ⟨hin, h⟩ := gI_if h
      refine gr_iald X G Y clM_2 hin (dck_at da_X12_start 16 rfl) ?_
      refine lv_iconst X.1 X.2.1 (dck_at da_X12_start 17 rfl) ki_3 ?_
      refine lv_icmp_eq (tgt := 45) X.1 X.2.1 (dck_at da_X12_start 18 rfl) rfl (fun c => ?_) (fun c => ?_)
      · have h := gI_pos h c
        exact b45 s4 _ _ _ h Y (lv_sub hl [0] rfl)
      · have h := gI_neg h c
        refine lv_aload_n X.1 X.2.1 (dck_at da_X12_start 19 rfl) rfl (lv_at hl 0 rfl) ?_
        refine gr_getR X G Y fk_RX12_13 clM_0 rfl (dck_at da_X12_start 20 rfl) ?_
        refine lv_iload_n X.1 X.2.1 (dck_at da_X12_start 21 rfl) rfl (lv_at hl 1 rfl) ?_
        obtain ⟨hin, h⟩ := gI_if h
        refine gr_iald X G Y clM_2 hin (dck_at da_X12_start 22 rfl) ?_
        refine lv_iconst X.1 X.2.1 (dck_at da_X12_start 23 rfl) ki_4 ?_
        refine lv_icmp_ne (tgt := 52) X.1 X.2.1 (dck_at da_X12_start 24 rfl) rfl (fun c => ?_) (fun c => ?_)
        · have h := gI_neg h c
          refine lv_iconst X.1 X.2.1 (dck_at da_X12_start 29 rfl) ki_0 ?_
          refine lv_istore_n (lv' := [(3, .int (0 : Int32)), (0, .ref (ad 0)), (1, .int a1), (2, .int a2)]) X.1 X.2.1 (dck_at da_X12_start 30 rfl) rfl hl (by decide) rfl (fun ls hl => ?_)
          exact b54 F a1 a2 (0 : Int32) s4 _ _ _ h Y (lv_sub hl [1, 2, 3, 0] rfl)
        · have h := gI_pos h c
          exact b45 s4 _ _ _ h Y (lv_sub hl [0] rfl)
    · have h := gI_pos h c
      exact b19 s4 _ _ _ h Y (lv_sub hl [0] rfl)
set_option maxRecDepth 100000 in
set_option maxHeartbeats 4000000 in
theorem ok_m_stopBehind {l : Launch} {D : va_G} {cy : Nat → ClassId} {ad sa : Nat → Nat} {A : Nat → Prop} {F : Nat} {a1 : Int32} {s0 : St} {ρ : Int32} {σ' : St} (h : m_stopBehind F a1 s0 = some (ρ, σ')) : gMi l shM D cy ad sa A yX12_stopBehind cX12_stopBehind 3 (some .int) 1 [.ref (ad 0), .int a1] s0 ρ σ' := by
  refine gM_of (by decide) (Nat.le_of_ble_eq_true rfl) ?_
  intro p e s m args below meth c ls X G Y hr hlk hl
  have hl : lv_has ls 3 [(0, .ref (ad 0)), (1, .int a1)] := hl
  have b8 : ∀ n : Nat, ∀ (x2 : Int32) (s0 : St) (H : Heap) (locs : List Loc) (ls : Array Slot), m_stopBehind_L8 F  n x2 s0 = some (ρ, σ') → gY shM D cy ad A s0 s H locs → lv_has ls 3 [(0, .ref (ad 0)), (2, .int x2)] → W p l e (grm 1) s m args below meth c H locs 0 0 (MQ below (va_Qi (fun (q : Int32) (_ : Unit) => q = ρ) (fun _ t => va_P D vwCl (gWl shM cy ad σ') t.heap) A) args s 0 0 A) (F0 m 8 ls []) := by
    intro n
    induction n with
    | zero => intro x2 s0 H locs ls h Y hl; exact (gnone h).elim
    | succ n hk8 =>
      have e : m_stopBehind_L8 F  (n + 1) = m_stopBehind_L8b F  (m_stopBehind_L8 F  n) := rfl
      rw [e]; clear e
      generalize m_stopBehind_L8 F  n = k8 at hk8 ⊢
      intro x2 s0 H locs ls h Y hl
      unfold m_stopBehind_L8b at h
      refine lv_aload_n X.1 X.2.1 (dck_at da_X12_stopBehind 6 rfl) rfl (lv_at hl 0 rfl) ?_
      refine gr_getR X G Y fk_RX12_13 clM_0 rfl (dck_at da_X12_stopBehind 7 rfl) ?_
      refine lv_iload_n X.1 X.2.1 (dck_at da_X12_stopBehind 8 rfl) rfl (lv_at hl 1 rfl) ?_
      obtain ⟨hin, h⟩ := gI_if h
      refine gr_iald X G Y clM_2 hin (dck_at da_X12_stopBehind 9 rfl) ?_
      refine lv_bipush X.1 X.2.1 (dck_at da_X12_stopBehind 10 rfl) kb_6 ?_
      refine lv_icmp_eq (tgt := 30) X.1 X.2.1 (dck_at da_X12_stopBehind 11 rfl) rfl (fun c => ?_) (fun c => ?_)
      · have h := gI_pos h c
        refine lv_iload_n X.1 X.2.1 (dck_at da_X12_stopBehind 19 rfl) rfl (lv_at hl 1 rfl) ?_
        exact gr_iretO X Y h hr rfl hlk (dck_at da_X12_stopBehind 20 rfl)
      · have h := gI_neg h c
        refine lv_iload_n X.1 X.2.1 (dck_at da_X12_stopBehind 12 rfl) rfl (lv_at hl 1 rfl) ?_
        refine lv_iconst X.1 X.2.1 (dck_at da_X12_stopBehind 13 rfl) ki_1 ?_
        refine lv_iadd X.1 X.2.1 (dck_at da_X12_stopBehind 14 rfl) ?_
        refine lv_sipush X.1 X.2.1 (dck_at da_X12_stopBehind 15 rfl) ks_144 ?_
        refine lv_irem X.1 X.2.1 (dck_at da_X12_stopBehind 16 rfl) (by decide) ?_
        refine lv_istore_n (lv' := [(2, .int ((x2 + (1 : Int32)) - (x2 + (1 : Int32)) / (144 : Int32) * (144 : Int32))), (0, .ref (ad 0))]) X.1 X.2.1 (dck_at da_X12_stopBehind 17 rfl) rfl hl (by decide) rfl (fun ls hl => ?_)
        refine lv_goto (tgt := 8) X.1 X.2.1 (dck_at da_X12_stopBehind 18 rfl) rfl ?_
        exact hk8 ((x2 + (1 : Int32)) - (x2 + (1 : Int32)) / (144 : Int32) * (144 : Int32)) s0 _ _ _ h Y (lv_sub hl [1, 0] rfl)
  unfold m_stopBehind at h
  refine lv_iload_n X.1 X.2.1 (dck_at da_X12_stopBehind 0 rfl) rfl (lv_at hl 1 rfl) ?_
  refine lv_iconst X.1 X.2.1 (dck_at da_X12_stopBehind 1 rfl) ki_1 ?_
  refine lv_iadd X.1 X.2.1 (dck_at da_X12_stopBehind 2 rfl) ?_
  refine lv_sipush X.1 X.2.1 (dck_at da_X12_stopBehind 3 rfl) ks_144 ?_
  refine lv_irem X.1 X.2.1 (dck_at da_X12_stopBehind 4 rfl) (by decide) ?_
  refine lv_istore_n (lv' := [(2, .int ((a1 + (1 : Int32)) - (a1 + (1 : Int32)) / (144 : Int32) * (144 : Int32))), (0, .ref (ad 0)), (1, .int a1)]) X.1 X.2.1 (dck_at da_X12_stopBehind 5 rfl) rfl hl (by decide) rfl (fun ls hl => ?_)
  exact b8 F ((a1 + (1 : Int32)) - (a1 + (1 : Int32)) / (144 : Int32) * (144 : Int32)) s0 _ _ _ h Y (lv_sub hl [1, 0] rfl)
set_option maxRecDepth 100000 in
set_option maxHeartbeats 4000000 in
theorem ok_m_next {l : Launch} {D : va_G} {cy : Nat → ClassId} {ad sa : Nat → Nat} {A : Nat → Prop} {F : Nat} {a0 : Int32} {a1 : Int32} {s0 : St} {ρ : Int32} {σ' : St} (h : m_next F a0 a1 s0 = some (ρ, σ')) : gMi l shM D cy ad sa A yX12_next cX12_next 4 (some .int) 2 [.int a0, .int a1] s0 ρ σ' := by
  refine gM_of (by decide) (Nat.le_of_ble_eq_true rfl) ?_
  intro p e s m args below meth c ls X G Y hr hlk hl
  have hl : lv_has ls 4 [(0, .int a0), (1, .int a1)] := hl
  have b82 : ∀  (s0 : St) (H : Heap) (locs : List Loc) (ls : Array Slot), m_next_J82 F  s0 = some (ρ, σ') → gY shM D cy ad A s0 s H locs → lv_has ls 4 [] → W p l e (grm 2) s m args below meth c H locs 0 0 (MQ below (va_Qi (fun (q : Int32) (_ : Unit) => q = ρ) (fun _ t => va_P D vwCl (gWl shM cy ad σ') t.heap) A) args s 0 0 A) (F0 m 82 ls []) := by
    intro s0 H locs ls h Y hl
    unfold m_next_J82 at h
    refine lv_bipush X.1 X.2.1 (dck_at da_X12_next 49 rfl) kb_m4 ?_
    exact gr_iretO X Y h hr rfl hlk (dck_at da_X12_next 50 rfl)
  have b47 : ∀ (x2 : Int32) (y0 : Int32) (y1 : Int32) (s0 : St) (H : Heap) (locs : List Loc) (ls : Array Slot), m_next_J47 F  x2 y0 y1 s0 = some (ρ, σ') → gY shM D cy ad A s0 s H locs → lv_has ls 4 [(2, .int x2)] → W p l e (grm 2) s m args below meth c H locs 0 0 (MQ below (va_Qi (fun (q : Int32) (_ : Unit) => q = ρ) (fun _ t => va_P D vwCl (gWl shM cy ad σ') t.heap) A) args s 0 0 A) (F0 m 47 ls [.int y1, .int y0]) := by
    intro x2 y0 y1 s0 H locs ls h Y hl
    unfold m_next_J47 at h
    refine lv_iadd X.1 X.2.1 (dck_at da_X12_next 29 rfl) ?_
    refine lv_istore_n (lv' := [(3, .int (y0 + y1)), (2, .int x2)]) X.1 X.2.1 (dck_at da_X12_next 30 rfl) rfl hl (by decide) rfl (fun ls hl => ?_)
    refine lv_iload_n X.1 X.2.1 (dck_at da_X12_next 31 rfl) rfl (lv_at hl 1 rfl) ?_
    refine lv_i2l (v := (x2).toInt64) X.1 X.2.1 (dck_at da_X12_next 32 rfl) rfl ?_
    refine lv_lconst (v := 0) X.1 X.2.1 (dck_at da_X12_next 33 rfl) rfl ?_
    refine lv_ldc2 X.1 X.2.1 X.2.2.2.1 (X.2.2.2.2 _ wm_1386) (dck_at da_X12_next 34 rfl) ?_
    obtain ⟨r1, s1, hc, h⟩ := gB2_some h
    refine gr_backi Y (gr_runS (as := [.long ((x2).toInt64), .long (0 : Int64), .long (11 : Int64)]) (rest := []) X G Y (ok_m_in hc) cs_RX12_126 ⟨Nat.le_of_ble_eq_true rfl, Nat.le_of_ble_eq_true rfl⟩ rfl hl.1 (Nat.le_of_ble_eq_true rfl) (dck_at da_X12_next 35 rfl)) (fun H locs Y => ?_)
    refine lv_if_eq (tgt := 82) X.1 X.2.1 (dck_at da_X12_next 36 rfl) rfl (fun c => ?_) (fun c => ?_)
    · have h := gI_pos h c
      exact b82 s1 _ _ _ h Y (lv_sub hl [] rfl)
    · have h := gI_neg h c
      refine lv_iload_n X.1 X.2.1 (dck_at da_X12_next 37 rfl) rfl (lv_at hl 0 rfl) ?_
      refine lv_i2l (v := (y0 + y1).toInt64) X.1 X.2.1 (dck_at da_X12_next 38 rfl) rfl ?_
      refine lv_lconst (v := 0) X.1 X.2.1 (dck_at da_X12_next 39 rfl) rfl ?_
      refine lv_ldc2 X.1 X.2.1 X.2.2.2.1 (X.2.2.2.2 _ wm_1386) (dck_at da_X12_next 40 rfl) ?_
      obtain ⟨r2, s2, hc, h⟩ := gB2_some h
      refine gr_backi Y (gr_runS (as := [.long ((y0 + y1).toInt64), .long (0 : Int64), .long (11 : Int64)]) (rest := []) X G Y (ok_m_in hc) cs_RX12_126 ⟨Nat.le_of_ble_eq_true rfl, Nat.le_of_ble_eq_true rfl⟩ rfl hl.1 (Nat.le_of_ble_eq_true rfl) (dck_at da_X12_next 41 rfl)) (fun H locs Y => ?_)
      refine lv_if_eq (tgt := 82) X.1 X.2.1 (dck_at da_X12_next 42 rfl) rfl (fun c => ?_) (fun c => ?_)
      · have h := gI_pos h c
        exact b82 s2 _ _ _ h Y (lv_sub hl [] rfl)
      · have h := gI_neg h c
        refine lv_bipush X.1 X.2.1 (dck_at da_X12_next 43 rfl) kb_12 ?_
        refine lv_iload_n X.1 X.2.1 (dck_at da_X12_next 44 rfl) rfl (lv_at hl 1 rfl) ?_
        refine lv_imul X.1 X.2.1 (dck_at da_X12_next 45 rfl) ?_
        refine lv_iload_n X.1 X.2.1 (dck_at da_X12_next 46 rfl) rfl (lv_at hl 0 rfl) ?_
        refine lv_iadd X.1 X.2.1 (dck_at da_X12_next 47 rfl) ?_
        refine lv_goto (tgt := 84) X.1 X.2.1 (dck_at da_X12_next 48 rfl) rfl ?_
        exact gr_iretO X Y h hr rfl hlk (dck_at da_X12_next 50 rfl)
  have b22 : ∀ (x0 : Int32) (x1 : Int32) (y0 : Int32) (y1 : Int32) (s0 : St) (H : Heap) (locs : List Loc) (ls : Array Slot), m_next_J22 F  x0 x1 y0 y1 s0 = some (ρ, σ') → gY shM D cy ad A s0 s H locs → lv_has ls 4 [(0, .int x0), (1, .int x1)] → W p l e (grm 2) s m args below meth c H locs 0 0 (MQ below (va_Qi (fun (q : Int32) (_ : Unit) => q = ρ) (fun _ t => va_P D vwCl (gWl shM cy ad σ') t.heap) A) args s 0 0 A) (F0 m 22 ls [.int y1, .int y0]) := by
    intro x0 x1 y0 y1 s0 H locs ls h Y hl
    unfold m_next_J22 at h
    refine lv_iadd X.1 X.2.1 (dck_at da_X12_next 13 rfl) ?_
    refine lv_istore_n (lv' := [(2, .int (y0 + y1)), (0, .int x0), (1, .int x1)]) X.1 X.2.1 (dck_at da_X12_next 14 rfl) rfl hl (by decide) rfl (fun ls hl => ?_)
    refine lv_iload_n X.1 X.2.1 (dck_at da_X12_next 15 rfl) rfl (lv_at hl 1 rfl) ?_
    refine lv_bipush X.1 X.2.1 (dck_at da_X12_next 16 rfl) kb_12 ?_
    refine lv_irem X.1 X.2.1 (dck_at da_X12_next 17 rfl) (by decide) ?_
    refine lv_iload_n X.1 X.2.1 (dck_at da_X12_next 18 rfl) rfl (lv_at hl 2 rfl) ?_
    refine lv_iconst X.1 X.2.1 (dck_at da_X12_next 19 rfl) ki_1 ?_
    refine lv_icmp_ne (tgt := 37) X.1 X.2.1 (dck_at da_X12_next 20 rfl) rfl (fun c => ?_) (fun c => ?_)
    · have h := gI_neg h c
      refine lv_iload_n X.1 X.2.1 (dck_at da_X12_next 23 rfl) rfl (lv_at hl 2 rfl) ?_
      refine lv_iconst X.1 X.2.1 (dck_at da_X12_next 24 rfl) ki_3 ?_
      refine lv_icmp_ne (tgt := 46) X.1 X.2.1 (dck_at da_X12_next 25 rfl) rfl (fun c => ?_) (fun c => ?_)
      · have h := gI_neg h c
        refine lv_iconst X.1 X.2.1 (dck_at da_X12_next 28 rfl) ki_0 ?_
        exact b47 (y0 + y1) (x0 - x0 / (12 : Int32) * (12 : Int32)) (0 : Int32) s0 _ _ _ h Y (lv_sub hl [0] rfl)
      · have h := gI_pos h c
        refine lv_iconst X.1 X.2.1 (dck_at da_X12_next 26 rfl) ki_m1 ?_
        refine lv_goto (tgt := 47) X.1 X.2.1 (dck_at da_X12_next 27 rfl) rfl ?_
        exact b47 (y0 + y1) (x0 - x0 / (12 : Int32) * (12 : Int32)) (-1 : Int32) s0 _ _ _ h Y (lv_sub hl [0] rfl)
    · have h := gI_pos h c
      refine lv_iconst X.1 X.2.1 (dck_at da_X12_next 21 rfl) ki_1 ?_
      refine lv_goto (tgt := 47) X.1 X.2.1 (dck_at da_X12_next 22 rfl) rfl ?_
      exact b47 (y0 + y1) (x0 - x0 / (12 : Int32) * (12 : Int32)) (1 : Int32) s0 _ _ _ h Y (lv_sub hl [0] rfl)
  unfold m_next at h
  refine lv_iload_n X.1 X.2.1 (dck_at da_X12_next 0 rfl) rfl (lv_at hl 0 rfl) ?_
  refine lv_bipush X.1 X.2.1 (dck_at da_X12_next 1 rfl) kb_12 ?_
  refine lv_idiv X.1 X.2.1 (dck_at da_X12_next 2 rfl) (by decide) ?_
  refine lv_iload_n X.1 X.2.1 (dck_at da_X12_next 3 rfl) rfl (lv_at hl 1 rfl) ?_
  refine lv_if_ne (tgt := 12) X.1 X.2.1 (dck_at da_X12_next 4 rfl) rfl (fun c => ?_) (fun c => ?_)
  · have h := gI_neg h c
    refine lv_iload_n X.1 X.2.1 (dck_at da_X12_next 7 rfl) rfl (lv_at hl 1 rfl) ?_
    refine lv_iconst X.1 X.2.1 (dck_at da_X12_next 8 rfl) ki_2 ?_
    refine lv_icmp_ne (tgt := 21) X.1 X.2.1 (dck_at da_X12_next 9 rfl) rfl (fun c => ?_) (fun c => ?_)
    · have h := gI_neg h c
      refine lv_iconst X.1 X.2.1 (dck_at da_X12_next 12 rfl) ki_0 ?_
      exact b22 a0 a1 (a0 / (12 : Int32)) (0 : Int32) s0 _ _ _ h Y (lv_sub hl [0, 1] rfl)
    · have h := gI_pos h c
      refine lv_iconst X.1 X.2.1 (dck_at da_X12_next 10 rfl) ki_1 ?_
      refine lv_goto (tgt := 22) X.1 X.2.1 (dck_at da_X12_next 11 rfl) rfl ?_
      exact b22 a0 a1 (a0 / (12 : Int32)) (1 : Int32) s0 _ _ _ h Y (lv_sub hl [0, 1] rfl)
  · have h := gI_pos h c
    refine lv_iconst X.1 X.2.1 (dck_at da_X12_next 5 rfl) ki_m1 ?_
    refine lv_goto (tgt := 22) X.1 X.2.1 (dck_at da_X12_next 6 rfl) rfl ?_
    exact b22 a0 a1 (a0 / (12 : Int32)) (-1 : Int32) s0 _ _ _ h Y (lv_sub hl [0, 1] rfl)
set_option maxRecDepth 100000 in
set_option maxHeartbeats 4000000 in
theorem ok_m_weight {l : Launch} {D : va_G} {cy : Nat → ClassId} {ad sa : Nat → Nat} {A : Nat → Prop} {F : Nat} {a1 : Int32} {a2 : Int32} {a3 : Int32} {s0 : St} {ρ : Int32} {σ' : St} (h : m_weight F a1 a2 a3 s0 = some (ρ, σ')) : gMi l shM D cy ad sa A yX12_weight cX12_weight 5 (some .int) 3 [.ref (ad 0), .int a1, .int a2, .int a3] s0 ρ σ' := by
  refine gM_of (by decide) (Nat.le_of_ble_eq_true rfl) ?_
  intro p e s m args below meth c ls X G Y hr hlk hl
  have hl : lv_has ls 5 [(0, .ref (ad 0)), (1, .int a1), (2, .int a2), (3, .int a3)] := hl
  have b34 : ∀  (s0 : St) (H : Heap) (locs : List Loc) (ls : Array Slot), m_weight_J34 F  s0 = some (ρ, σ') → gY shM D cy ad A s0 s H locs → lv_has ls 5 [] → W p l e (grm 3) s m args below meth c H locs 0 0 (MQ below (va_Qi (fun (q : Int32) (_ : Unit) => q = ρ) (fun _ t => va_P D vwCl (gWl shM cy ad σ') t.heap) A) args s 0 0 A) (F0 m 34 ls []) := by
    intro s0 H locs ls h Y hl
    unfold m_weight_J34 at h
    refine lv_iconst X.1 X.2.1 (dck_at da_X12_weight 18 rfl) ki_0 ?_
    refine lv_goto (tgt := 54) X.1 X.2.1 (dck_at da_X12_weight 19 rfl) rfl ?_
    exact gr_iretO X Y h hr rfl hlk (dck_at da_X12_weight 31 rfl)
  unfold m_weight at h
  refine lv_iload_n X.1 X.2.1 (dck_at da_X12_weight 0 rfl) rfl (lv_at hl 1 rfl) ?_
  refine lv_iload_n X.1 X.2.1 (dck_at da_X12_weight 1 rfl) rfl (lv_at hl 2 rfl) ?_
  obtain ⟨r1, s1, hc, h⟩ := gB2_some h
  refine gr_backi Y (gr_runS (as := [.int a1, .int a2]) (rest := []) X G Y (ok_m_next hc) cs_RX12_195 ⟨Nat.le_of_ble_eq_true rfl, Nat.le_of_ble_eq_true rfl⟩ rfl hl.1 (Nat.le_of_ble_eq_true rfl) (dck_at da_X12_weight 2 rfl)) (fun H locs Y => ?_)
  refine lv_istore (lv' := [(4, .int r1), (0, .ref (ad 0)), (1, .int a1), (2, .int a2), (3, .int a3)]) X.1 X.2.1 (dck_at da_X12_weight 3 rfl) hl (by decide) rfl (fun ls hl => ?_)
  refine lv_iload X.1 X.2.1 (dck_at da_X12_weight 4 rfl) (lv_at hl 0 rfl) ?_
  refine lv_if_lt (tgt := 34) X.1 X.2.1 (dck_at da_X12_weight 5 rfl) rfl (fun c => ?_) (fun c => ?_)
  · have h := gI_pos h c
    exact b34 s1 _ _ _ h Y (lv_sub hl [] rfl)
  · have h := gI_neg h c
    refine lv_aload_n X.1 X.2.1 (dck_at da_X12_weight 6 rfl) rfl (lv_at hl 1 rfl) ?_
    refine gr_getR X G Y fk_RX12_13 clM_0 rfl (dck_at da_X12_weight 7 rfl) ?_
    refine lv_iload X.1 X.2.1 (dck_at da_X12_weight 8 rfl) (lv_at hl 0 rfl) ?_
    obtain ⟨hin, h⟩ := gI_if h
    refine gr_iald X G Y clM_2 hin (dck_at da_X12_weight 9 rfl) ?_
    refine lv_iconst X.1 X.2.1 (dck_at da_X12_weight 10 rfl) ki_3 ?_
    refine lv_icmp_eq (tgt := 34) X.1 X.2.1 (dck_at da_X12_weight 11 rfl) rfl (fun c => ?_) (fun c => ?_)
    · have h := gI_pos h c
      exact b34 s1 _ _ _ h Y (lv_sub hl [] rfl)
    · have h := gI_neg h c
      refine lv_aload_n X.1 X.2.1 (dck_at da_X12_weight 12 rfl) rfl (lv_at hl 1 rfl) ?_
      refine gr_getR X G Y fk_RX12_13 clM_0 rfl (dck_at da_X12_weight 13 rfl) ?_
      refine lv_iload X.1 X.2.1 (dck_at da_X12_weight 14 rfl) (lv_at hl 0 rfl) ?_
      obtain ⟨hin, h⟩ := gI_if h
      refine gr_iald X G Y clM_2 hin (dck_at da_X12_weight 15 rfl) ?_
      refine lv_iconst X.1 X.2.1 (dck_at da_X12_weight 16 rfl) ki_4 ?_
      refine lv_icmp_ne (tgt := 38) X.1 X.2.1 (dck_at da_X12_weight 17 rfl) rfl (fun c => ?_) (fun c => ?_)
      · have h := gI_neg h c
        refine lv_aload_n X.1 X.2.1 (dck_at da_X12_weight 20 rfl) rfl (lv_at hl 1 rfl) ?_
        refine gr_getR X G Y fk_RX12_22 clM_0 rfl (dck_at da_X12_weight 21 rfl) ?_
        refine lv_iload_n X.1 X.2.1 (dck_at da_X12_weight 22 rfl) rfl (lv_at hl 4 rfl) ?_
        obtain ⟨hin, h⟩ := gI_if h
        refine gr_iald X G Y clM_5 hin (dck_at da_X12_weight 23 rfl) ?_
        refine lv_iconst X.1 X.2.1 (dck_at da_X12_weight 24 rfl) ki_1 ?_
        refine lv_aload_n X.1 X.2.1 (dck_at da_X12_weight 25 rfl) rfl (lv_at hl 1 rfl) ?_
        refine gr_getR X G Y fk_RX12_16 clM_0 rfl (dck_at da_X12_weight 26 rfl) ?_
        refine lv_iload X.1 X.2.1 (dck_at da_X12_weight 27 rfl) (lv_at hl 0 rfl) ?_
        obtain ⟨hin, h⟩ := gI_if h
        refine gr_iald X G Y clM_3 hin (dck_at da_X12_weight 28 rfl) ?_
        refine lv_iadd X.1 X.2.1 (dck_at da_X12_weight 29 rfl) ?_
        refine lv_imul X.1 X.2.1 (dck_at da_X12_weight 30 rfl) ?_
        exact gr_iretO X Y h hr rfl hlk (dck_at da_X12_weight 31 rfl)
      · have h := gI_pos h c
        exact b34 s1 _ _ _ h Y (lv_sub hl [] rfl)
set_option maxRecDepth 100000 in
set_option maxHeartbeats 4000000 in
theorem ok_m_goes {l : Launch} {D : va_G} {cy : Nat → ClassId} {ad sa : Nat → Nat} {A : Nat → Prop} {F : Nat} {a1 : Int32} {a2 : Int32} {s0 : St} {σ' : St} (h : m_goes F a1 a2 s0 = some σ') : gMv l shM D cy ad sa A yX12_goes cX12_goes 15 none 4 [.ref (ad 0), .int a1, .int a2] s0 σ' := by
  refine gM_of (by decide) (Nat.le_of_ble_eq_true rfl) ?_
  intro p e s m args below meth c ls X G Y hr hlk hl
  have hl : lv_has ls 15 [(0, .ref (ad 0)), (1, .int a1), (2, .int a2)] := hl
  have b303 : ∀ (x1 : Int32) (x8 : Int64) (s0 : St) (H : Heap) (locs : List Loc) (ls : Array Slot), m_goes_J303 F  x1 x8 s0 = some σ' → gY shM D cy ad A s0 s H locs → lv_has ls 15 [(0, .ref (ad 0)), (1, .int x1), (8, .long x8)] → W p l e (grm 4) s m args below meth c H locs 0 0 (MQ below (va_Qv (fun (_ : Unit) => True) (fun _ t => va_P D vwCl (gWl shM cy ad σ') t.heap) A) args s 0 0 A) (F0 m 303 ls []) := by
    intro x1 x8 s0 H locs ls h Y hl
    unfold m_goes_J303 at h
    refine lv_aload_n X.1 X.2.1 (dck_at da_X12_goes 178 rfl) rfl (lv_at hl 0 rfl) ?_
    refine gr_getR X G Y fk_RX12_38 clM_0 rfl (dck_at da_X12_goes 179 rfl) ?_
    refine lv_iconst X.1 X.2.1 (dck_at da_X12_goes 180 rfl) ki_5 ?_
    refine lv_iload_n X.1 X.2.1 (dck_at da_X12_goes 181 rfl) rfl (lv_at hl 1 rfl) ?_
    refine lv_imul X.1 X.2.1 (dck_at da_X12_goes 182 rfl) ?_
    refine lv_iconst X.1 X.2.1 (dck_at da_X12_goes 183 rfl) ki_4 ?_
    refine lv_iadd X.1 X.2.1 (dck_at da_X12_goes 184 rfl) ?_
    refine lv_dup2_11 X.1 X.2.1 (dck_at da_X12_goes 185 rfl) rfl rfl ?_
    obtain ⟨hin, h⟩ := gI_if h
    refine gr_lald X G Y clM_10 hin (dck_at da_X12_goes 186 rfl) ?_
    refine lv_lload X.1 X.2.1 (dck_at da_X12_goes 187 rfl) (lv_at hl 2 rfl) ?_
    refine lv_ladd X.1 X.2.1 (dck_at da_X12_goes 188 rfl) ?_
    obtain ⟨hin, h⟩ := gI_if h
    refine gr_last X G Y clM_10 hin (dck_at da_X12_goes 189 rfl) (fun H locs Y => ?_)
    exact gr_vretO X Y h hr hlk (dck_at da_X12_goes 190 rfl)
  have b261 : ∀ (x1 : Int32) (x2 : Int32) (x3 : Int64) (x6 : Int32) (x7 : Int32) (x8 : Int64) (s0 : St) (H : Heap) (locs : List Loc) (ls : Array Slot), m_goes_J261 F  x1 x2 x3 x6 x7 x8 s0 = some σ' → gY shM D cy ad A s0 s H locs → lv_has ls 15 [(0, .ref (ad 0)), (1, .int x1), (2, .int x2), (3, .long x3), (6, .int x6), (7, .int x7), (8, .long x8)] → W p l e (grm 4) s m args below meth c H locs 0 0 (MQ below (va_Qv (fun (_ : Unit) => True) (fun _ t => va_P D vwCl (gWl shM cy ad σ') t.heap) A) args s 0 0 A) (F0 m 261 ls []) := by
    intro x1 x2 x3 x6 x7 x8 s0 H locs ls h Y hl
    unfold m_goes_J261 at h
    refine lv_iload X.1 X.2.1 (dck_at da_X12_goes 150 rfl) (lv_at hl 4 rfl) ?_
    refine lv_if_le (tgt := 303) X.1 X.2.1 (dck_at da_X12_goes 151 rfl) rfl (fun c => ?_) (fun c => ?_)
    · have h := gI_pos h c
      exact b303 x1 x8 s0 _ _ _ h Y (lv_sub hl [0, 1, 6] rfl)
    · have h := gI_neg h c
      refine lv_lload_n X.1 X.2.1 (dck_at da_X12_goes 152 rfl) rfl (lv_at hl 3 rfl) ?_
      refine lv_iload X.1 X.2.1 (dck_at da_X12_goes 153 rfl) (lv_at hl 4 rfl) ?_
      refine lv_i2l (v := (x6).toInt64) X.1 X.2.1 (dck_at da_X12_goes 154 rfl) rfl ?_
      refine lv_lmul X.1 X.2.1 (dck_at da_X12_goes 155 rfl) ?_
      refine lv_iload X.1 X.2.1 (dck_at da_X12_goes 156 rfl) (lv_at hl 5 rfl) ?_
      refine lv_i2l (v := (x7).toInt64) X.1 X.2.1 (dck_at da_X12_goes 157 rfl) rfl ?_
      obtain ⟨hz, h⟩ := gI_nz h
      refine lv_ldiv X.1 X.2.1 (dck_at da_X12_goes 158 rfl) hz ?_
      refine lv_lstore (lv' := [(10, .long ((x3 * ((x6).toInt64)) / ((x7).toInt64))), (0, .ref (ad 0)), (1, .int x1), (2, .int x2), (3, .long x3), (6, .int x6), (7, .int x7), (8, .long x8)]) X.1 X.2.1 (dck_at da_X12_goes 159 rfl) hl (by decide) rfl (fun ls hl => ?_)
      refine lv_aload_n X.1 X.2.1 (dck_at da_X12_goes 160 rfl) rfl (lv_at hl 1 rfl) ?_
      refine gr_getR X G Y fk_RX12_38 clM_0 rfl (dck_at da_X12_goes 161 rfl) ?_
      refine lv_iconst X.1 X.2.1 (dck_at da_X12_goes 162 rfl) ki_5 ?_
      refine lv_aload_n X.1 X.2.1 (dck_at da_X12_goes 163 rfl) rfl (lv_at hl 1 rfl) ?_
      refine lv_iload_n X.1 X.2.1 (dck_at da_X12_goes 164 rfl) rfl (lv_at hl 2 rfl) ?_
      obtain ⟨r1, s1, hc, h⟩ := gB2_some h
      refine gr_backi Y (gr_runV (as := [.int x1]) (rest := [.int (5 : Int32), .ref (ad 10)]) X G Y (ok_m_stopBehind hc) cv_RX12_203 clM_0 ⟨Nat.le_of_ble_eq_true rfl, Nat.le_of_ble_eq_true rfl⟩ rfl hl.1 (Nat.le_of_ble_eq_true rfl) (dck_at da_X12_goes 165 rfl)) (fun H locs Y => ?_)
      refine lv_imul X.1 X.2.1 (dck_at da_X12_goes 166 rfl) ?_
      refine lv_iload_n X.1 X.2.1 (dck_at da_X12_goes 167 rfl) rfl (lv_at hl 3 rfl) ?_
      refine lv_iadd X.1 X.2.1 (dck_at da_X12_goes 168 rfl) ?_
      refine lv_dup2_11 X.1 X.2.1 (dck_at da_X12_goes 169 rfl) rfl rfl ?_
      obtain ⟨hin, h⟩ := gI_if h
      refine gr_lald X G Y clM_10 hin (dck_at da_X12_goes 170 rfl) ?_
      refine lv_lload X.1 X.2.1 (dck_at da_X12_goes 171 rfl) (lv_at hl 0 rfl) ?_
      refine lv_ladd X.1 X.2.1 (dck_at da_X12_goes 172 rfl) ?_
      obtain ⟨hin, h⟩ := gI_if h
      refine gr_last X G Y clM_10 hin (dck_at da_X12_goes 173 rfl) (fun H locs Y => ?_)
      refine lv_lload X.1 X.2.1 (dck_at da_X12_goes 174 rfl) (lv_at hl 7 rfl) ?_
      refine lv_lload X.1 X.2.1 (dck_at da_X12_goes 175 rfl) (lv_at hl 0 rfl) ?_
      refine lv_lsub X.1 X.2.1 (dck_at da_X12_goes 176 rfl) ?_
      refine lv_lstore (lv' := [(8, .long (x8 - ((x3 * ((x6).toInt64)) / ((x7).toInt64)))), (10, .long ((x3 * ((x6).toInt64)) / ((x7).toInt64))), (0, .ref (ad 0)), (1, .int x1), (2, .int x2), (3, .long x3), (6, .int x6), (7, .int x7)]) X.1 X.2.1 (dck_at da_X12_goes 177 rfl) hl (by decide) rfl (fun ls hl => ?_)
      exact b303 x1 (x8 - ((x3 * ((x6).toInt64)) / ((x7).toInt64))) (sJ s1 10 (((5 : Int32) * r1) + x2).toNatClampNeg ((s1.2 10 (((5 : Int32) * r1) + x2).toNatClampNeg) + ((x3 * ((x6).toInt64)) / ((x7).toInt64)))) _ _ _ h Y (lv_sub hl [2, 3, 0] rfl)
  have b152 : ∀ n : Nat, ∀ (x1 : Int32) (x2 : Int32) (x3 : Int64) (x6 : Int32) (x7 : Int32) (x8 : Int64) (x10 : Int32) (s0 : St) (H : Heap) (locs : List Loc) (ls : Array Slot), m_goes_L152 F  n x1 x2 x3 x6 x7 x8 x10 s0 = some σ' → gY shM D cy ad A s0 s H locs → lv_has ls 15 [(0, .ref (ad 0)), (1, .int x1), (2, .int x2), (3, .long x3), (6, .int x6), (7, .int x7), (8, .long x8), (10, .int x10)] → W p l e (grm 4) s m args below meth c H locs 0 0 (MQ below (va_Qv (fun (_ : Unit) => True) (fun _ t => va_P D vwCl (gWl shM cy ad σ') t.heap) A) args s 0 0 A) (F0 m 152 ls []) := by
    intro n
    induction n with
    | zero => intro x1 x2 x3 x6 x7 x8 x10 s0 H locs ls h Y hl; exact (gnone h).elim
    | succ n hk152 =>
      have e : m_goes_L152 F  (n + 1) = m_goes_L152b F  (m_goes_L152 F  n) := rfl
      rw [e]; clear e
      generalize m_goes_L152 F  n = k152 at hk152 ⊢
      have b255 : ∀ (x1 : Int32) (x2 : Int32) (x3 : Int64) (x6 : Int32) (x7 : Int32) (x8 : Int64) (x10 : Int32) (s0 : St) (H : Heap) (locs : List Loc) (ls : Array Slot), m_goes_J255 F k152 x1 x2 x3 x6 x7 x8 x10 s0 = some σ' → gY shM D cy ad A s0 s H locs → lv_has ls 15 [(0, .ref (ad 0)), (1, .int x1), (2, .int x2), (3, .long x3), (6, .int x6), (7, .int x7), (8, .long x8), (10, .int x10)] → W p l e (grm 4) s m args below meth c H locs 0 0 (MQ below (va_Qv (fun (_ : Unit) => True) (fun _ t => va_P D vwCl (gWl shM cy ad σ') t.heap) A) args s 0 0 A) (F0 m 255 ls []) := by
        intro x1 x2 x3 x6 x7 x8 x10 s0 H locs ls h Y hl
        unfold m_goes_J255 at h
        refine lv_iinc (v := x10 + (1 : Int32)) (lv' := [(10, .int (x10 + (1 : Int32))), (0, .ref (ad 0)), (1, .int x1), (2, .int x2), (3, .long x3), (6, .int x6), (7, .int x7), (8, .long x8)]) X.1 X.2.1 (dck_at da_X12_goes 148 rfl) hl (k := 7) rfl (congrArg (HAdd.hAdd _) ki_1) (by decide) rfl (fun ls hl => ?_)
        refine lv_goto (tgt := 152) X.1 X.2.1 (dck_at da_X12_goes 149 rfl) rfl ?_
        exact hk152 x1 x2 x3 x6 x7 x8 (x10 + (1 : Int32)) s0 _ _ _ h Y (lv_sub hl [1, 2, 3, 4, 5, 6, 7, 0] rfl)
      have b195 : ∀ (x1 : Int32) (x2 : Int32) (x3 : Int64) (x6 : Int32) (x7 : Int32) (x8 : Int64) (x10 : Int32) (y0 : Int32) (y1 : Int32) (s0 : St) (H : Heap) (locs : List Loc) (ls : Array Slot), m_goes_J195 F k152 x1 x2 x3 x6 x7 x8 x10 y0 y1 s0 = some σ' → gY shM D cy ad A s0 s H locs → lv_has ls 15 [(0, .ref (ad 0)), (1, .int x1), (2, .int x2), (3, .long x3), (6, .int x6), (7, .int x7), (8, .long x8), (10, .int x10)] → W p l e (grm 4) s m args below meth c H locs 0 0 (MQ below (va_Qv (fun (_ : Unit) => True) (fun _ t => va_P D vwCl (gWl shM cy ad σ') t.heap) A) args s 0 0 A) (F0 m 195 ls [.int y1, .int y0]) := by
        intro x1 x2 x3 x6 x7 x8 x10 y0 y1 s0 H locs ls h Y hl
        unfold m_goes_J195 at h
        refine lv_iadd X.1 X.2.1 (dck_at da_X12_goes 110 rfl) ?_
        refine lv_iconst X.1 X.2.1 (dck_at da_X12_goes 111 rfl) ki_4 ?_
        refine lv_irem X.1 X.2.1 (dck_at da_X12_goes 112 rfl) (by decide) ?_
        refine lv_istore (lv' := [(11, .int ((y0 + y1) - (y0 + y1) / (4 : Int32) * (4 : Int32))), (0, .ref (ad 0)), (1, .int x1), (2, .int x2), (3, .long x3), (6, .int x6), (7, .int x7), (8, .long x8), (10, .int x10)]) X.1 X.2.1 (dck_at da_X12_goes 113 rfl) hl (by decide) rfl (fun ls hl => ?_)
        refine lv_aload_n X.1 X.2.1 (dck_at da_X12_goes 114 rfl) rfl (lv_at hl 1 rfl) ?_
        refine lv_iload_n X.1 X.2.1 (dck_at da_X12_goes 115 rfl) rfl (lv_at hl 2 rfl) ?_
        refine lv_iload X.1 X.2.1 (dck_at da_X12_goes 116 rfl) (lv_at hl 0 rfl) ?_
        refine lv_iload X.1 X.2.1 (dck_at da_X12_goes 117 rfl) (lv_at hl 8 rfl) ?_
        obtain ⟨r2, s2, hc, h⟩ := gB2_some h
        refine gr_backi Y (gr_runV (as := [.int x1, .int ((y0 + y1) - (y0 + y1) / (4 : Int32) * (4 : Int32)), .int x10]) (rest := []) X G Y (ok_m_weight hc) cv_RX12_199 clM_0 ⟨Nat.le_of_ble_eq_true rfl, Nat.le_of_ble_eq_true rfl⟩ rfl hl.1 (Nat.le_of_ble_eq_true rfl) (dck_at da_X12_goes 118 rfl)) (fun H locs Y => ?_)
        refine lv_istore (lv' := [(12, .int r2), (11, .int ((y0 + y1) - (y0 + y1) / (4 : Int32) * (4 : Int32))), (0, .ref (ad 0)), (1, .int x1), (2, .int x2), (3, .long x3), (6, .int x6), (7, .int x7), (8, .long x8), (10, .int x10)]) X.1 X.2.1 (dck_at da_X12_goes 119 rfl) hl (by decide) rfl (fun ls hl => ?_)
        refine lv_iload X.1 X.2.1 (dck_at da_X12_goes 120 rfl) (lv_at hl 0 rfl) ?_
        refine lv_if_le (tgt := 255) X.1 X.2.1 (dck_at da_X12_goes 121 rfl) rfl (fun c => ?_) (fun c => ?_)
        · have h := gI_pos h c
          exact b255 x1 x2 x3 x6 x7 x8 x10 s2 _ _ _ h Y (lv_sub hl [2, 3, 4, 5, 6, 7, 8, 9] rfl)
        · have h := gI_neg h c
          refine lv_lload_n X.1 X.2.1 (dck_at da_X12_goes 122 rfl) rfl (lv_at hl 5 rfl) ?_
          refine lv_iload X.1 X.2.1 (dck_at da_X12_goes 123 rfl) (lv_at hl 0 rfl) ?_
          refine lv_i2l (v := (r2).toInt64) X.1 X.2.1 (dck_at da_X12_goes 124 rfl) rfl ?_
          refine lv_lmul X.1 X.2.1 (dck_at da_X12_goes 125 rfl) ?_
          refine lv_iload X.1 X.2.1 (dck_at da_X12_goes 126 rfl) (lv_at hl 7 rfl) ?_
          refine lv_i2l (v := (x7).toInt64) X.1 X.2.1 (dck_at da_X12_goes 127 rfl) rfl ?_
          obtain ⟨hz, h⟩ := gI_nz h
          refine lv_ldiv X.1 X.2.1 (dck_at da_X12_goes 128 rfl) hz ?_
          refine lv_lstore (lv' := [(13, .long ((x3 * ((r2).toInt64)) / ((x7).toInt64))), (12, .int r2), (11, .int ((y0 + y1) - (y0 + y1) / (4 : Int32) * (4 : Int32))), (0, .ref (ad 0)), (1, .int x1), (2, .int x2), (3, .long x3), (6, .int x6), (7, .int x7), (8, .long x8), (10, .int x10)]) X.1 X.2.1 (dck_at da_X12_goes 129 rfl) hl (by decide) rfl (fun ls hl => ?_)
          refine lv_aload_n X.1 X.2.1 (dck_at da_X12_goes 130 rfl) rfl (lv_at hl 3 rfl) ?_
          refine gr_getR X G Y fk_RX12_38 clM_0 rfl (dck_at da_X12_goes 131 rfl) ?_
          refine lv_iconst X.1 X.2.1 (dck_at da_X12_goes 132 rfl) ki_5 ?_
          refine lv_iload_n X.1 X.2.1 (dck_at da_X12_goes 133 rfl) rfl (lv_at hl 4 rfl) ?_
          refine lv_iload X.1 X.2.1 (dck_at da_X12_goes 134 rfl) (lv_at hl 2 rfl) ?_
          obtain ⟨r3, s3, hc, h⟩ := gB2_some h
          refine gr_backi Y (gr_runS (as := [.int x1, .int ((y0 + y1) - (y0 + y1) / (4 : Int32) * (4 : Int32))]) (rest := [.int (5 : Int32), .ref (ad 10)]) X G Y (ok_m_next hc) cs_RX12_195 ⟨Nat.le_of_ble_eq_true rfl, Nat.le_of_ble_eq_true rfl⟩ rfl hl.1 (Nat.le_of_ble_eq_true rfl) (dck_at da_X12_goes 135 rfl)) (fun H locs Y => ?_)
          refine lv_imul X.1 X.2.1 (dck_at da_X12_goes 136 rfl) ?_
          refine lv_iload X.1 X.2.1 (dck_at da_X12_goes 137 rfl) (lv_at hl 2 rfl) ?_
          refine lv_iadd X.1 X.2.1 (dck_at da_X12_goes 138 rfl) ?_
          refine lv_dup2_11 X.1 X.2.1 (dck_at da_X12_goes 139 rfl) rfl rfl ?_
          obtain ⟨hin, h⟩ := gI_if h
          refine gr_lald X G Y clM_10 hin (dck_at da_X12_goes 140 rfl) ?_
          refine lv_lload X.1 X.2.1 (dck_at da_X12_goes 141 rfl) (lv_at hl 0 rfl) ?_
          refine lv_ladd X.1 X.2.1 (dck_at da_X12_goes 142 rfl) ?_
          obtain ⟨hin, h⟩ := gI_if h
          refine gr_last X G Y clM_10 hin (dck_at da_X12_goes 143 rfl) (fun H locs Y => ?_)
          refine lv_lload X.1 X.2.1 (dck_at da_X12_goes 144 rfl) (lv_at hl 9 rfl) ?_
          refine lv_lload X.1 X.2.1 (dck_at da_X12_goes 145 rfl) (lv_at hl 0 rfl) ?_
          refine lv_lsub X.1 X.2.1 (dck_at da_X12_goes 146 rfl) ?_
          refine lv_lstore (lv' := [(8, .long (x8 - ((x3 * ((r2).toInt64)) / ((x7).toInt64)))), (13, .long ((x3 * ((r2).toInt64)) / ((x7).toInt64))), (12, .int r2), (11, .int ((y0 + y1) - (y0 + y1) / (4 : Int32) * (4 : Int32))), (0, .ref (ad 0)), (1, .int x1), (2, .int x2), (3, .long x3), (6, .int x6), (7, .int x7), (10, .int x10)]) X.1 X.2.1 (dck_at da_X12_goes 147 rfl) hl (by decide) rfl (fun ls hl => ?_)
          exact b255 x1 x2 x3 x6 x7 (x8 - ((x3 * ((r2).toInt64)) / ((x7).toInt64))) x10 (sJ s3 10 (((5 : Int32) * r3) + ((y0 + y1) - (y0 + y1) / (4 : Int32) * (4 : Int32))).toNatClampNeg ((s3.2 10 (((5 : Int32) * r3) + ((y0 + y1) - (y0 + y1) / (4 : Int32) * (4 : Int32))).toNatClampNeg) + ((x3 * ((r2).toInt64)) / ((x7).toInt64)))) _ _ _ h Y (lv_sub hl [4, 5, 6, 7, 8, 9, 0, 10] rfl)
      intro x1 x2 x3 x6 x7 x8 x10 s0 H locs ls h Y hl
      unfold m_goes_L152b at h
      refine lv_iload X.1 X.2.1 (dck_at da_X12_goes 88 rfl) (lv_at hl 7 rfl) ?_
      refine lv_iconst X.1 X.2.1 (dck_at da_X12_goes 89 rfl) ki_4 ?_
      refine lv_icmp_ge (tgt := 261) X.1 X.2.1 (dck_at da_X12_goes 90 rfl) rfl (fun c => ?_) (fun c => ?_)
      · have h := gI_pos h c
        exact b261 x1 x2 x3 x6 x7 x8 s0 _ _ _ h Y (lv_sub hl [0, 1, 2, 3, 4, 5, 6] rfl)
      · have h := gI_neg h c
        refine lv_iload X.1 X.2.1 (dck_at da_X12_goes 91 rfl) (lv_at hl 5 rfl) ?_
        refine lv_if_le (tgt := 261) X.1 X.2.1 (dck_at da_X12_goes 92 rfl) rfl (fun c => ?_) (fun c => ?_)
        · have h := gI_pos h c
          exact b261 x1 x2 x3 x6 x7 x8 s0 _ _ _ h Y (lv_sub hl [0, 1, 2, 3, 4, 5, 6] rfl)
        · have h := gI_neg h c
          refine lv_iload_n X.1 X.2.1 (dck_at da_X12_goes 93 rfl) rfl (lv_at hl 2 rfl) ?_
          refine lv_iload X.1 X.2.1 (dck_at da_X12_goes 94 rfl) (lv_at hl 7 rfl) ?_
          refine lv_iconst X.1 X.2.1 (dck_at da_X12_goes 95 rfl) ki_1 ?_
          refine lv_icmp_ne (tgt := 174) X.1 X.2.1 (dck_at da_X12_goes 96 rfl) rfl (fun c => ?_) (fun c => ?_)
          · have h := gI_neg h c
            refine lv_iload X.1 X.2.1 (dck_at da_X12_goes 99 rfl) (lv_at hl 7 rfl) ?_
            refine lv_iconst X.1 X.2.1 (dck_at da_X12_goes 100 rfl) ki_2 ?_
            refine lv_icmp_ne (tgt := 184) X.1 X.2.1 (dck_at da_X12_goes 101 rfl) rfl (fun c => ?_) (fun c => ?_)
            · have h := gI_neg h c
              refine lv_iload X.1 X.2.1 (dck_at da_X12_goes 104 rfl) (lv_at hl 7 rfl) ?_
              refine lv_iconst X.1 X.2.1 (dck_at da_X12_goes 105 rfl) ki_3 ?_
              refine lv_icmp_ne (tgt := 194) X.1 X.2.1 (dck_at da_X12_goes 106 rfl) rfl (fun c => ?_) (fun c => ?_)
              · have h := gI_neg h c
                refine lv_iconst X.1 X.2.1 (dck_at da_X12_goes 109 rfl) ki_0 ?_
                exact b195 x1 x2 x3 x6 x7 x8 x10 x2 (0 : Int32) s0 _ _ _ h Y (lv_sub hl [0, 1, 2, 3, 4, 5, 6, 7] rfl)
              · have h := gI_pos h c
                refine lv_iconst X.1 X.2.1 (dck_at da_X12_goes 107 rfl) ki_2 ?_
                refine lv_goto (tgt := 195) X.1 X.2.1 (dck_at da_X12_goes 108 rfl) rfl ?_
                exact b195 x1 x2 x3 x6 x7 x8 x10 x2 (2 : Int32) s0 _ _ _ h Y (lv_sub hl [0, 1, 2, 3, 4, 5, 6, 7] rfl)
            · have h := gI_pos h c
              refine lv_iconst X.1 X.2.1 (dck_at da_X12_goes 102 rfl) ki_1 ?_
              refine lv_goto (tgt := 195) X.1 X.2.1 (dck_at da_X12_goes 103 rfl) rfl ?_
              exact b195 x1 x2 x3 x6 x7 x8 x10 x2 (1 : Int32) s0 _ _ _ h Y (lv_sub hl [0, 1, 2, 3, 4, 5, 6, 7] rfl)
          · have h := gI_pos h c
            refine lv_iconst X.1 X.2.1 (dck_at da_X12_goes 97 rfl) ki_3 ?_
            refine lv_goto (tgt := 195) X.1 X.2.1 (dck_at da_X12_goes 98 rfl) rfl ?_
            exact b195 x1 x2 x3 x6 x7 x8 x10 x2 (3 : Int32) s0 _ _ _ h Y (lv_sub hl [0, 1, 2, 3, 4, 5, 6, 7] rfl)
  have b87 : ∀ n : Nat, ∀ (x1 : Int32) (x2 : Int32) (x3 : Int64) (x6 : Int32) (x7 : Int32) (x8 : Int32) (s0 : St) (H : Heap) (locs : List Loc) (ls : Array Slot), m_goes_L87 F  n x1 x2 x3 x6 x7 x8 s0 = some σ' → gY shM D cy ad A s0 s H locs → lv_has ls 15 [(0, .ref (ad 0)), (1, .int x1), (2, .int x2), (3, .long x3), (6, .int x6), (7, .int x7), (8, .int x8)] → W p l e (grm 4) s m args below meth c H locs 0 0 (MQ below (va_Qv (fun (_ : Unit) => True) (fun _ t => va_P D vwCl (gWl shM cy ad σ') t.heap) A) args s 0 0 A) (F0 m 87 ls []) := by
    intro n
    induction n with
    | zero => intro x1 x2 x3 x6 x7 x8 s0 H locs ls h Y hl; exact (gnone h).elim
    | succ n hk87 =>
      have e : m_goes_L87 F  (n + 1) = m_goes_L87b F  (m_goes_L87 F  n) := rfl
      rw [e]; clear e
      generalize m_goes_L87 F  n = k87 at hk87 ⊢
      have b129 : ∀ (x1 : Int32) (x2 : Int32) (x3 : Int64) (x6 : Int32) (x8 : Int32) (y0 : Int32) (y2 : Int32) (y3 : Int32) (y4 : Int32) (s0 : St) (H : Heap) (locs : List Loc) (ls : Array Slot), m_goes_J129 F k87 x1 x2 x3 x6 x8 y0 y2 y3 y4 s0 = some σ' → gY shM D cy ad A s0 s H locs → lv_has ls 15 [(0, .ref (ad 0)), (1, .int x1), (2, .int x2), (3, .long x3), (6, .int x6), (8, .int x8)] → W p l e (grm 4) s m args below meth c H locs 0 0 (MQ below (va_Qv (fun (_ : Unit) => True) (fun _ t => va_P D vwCl (gWl shM cy ad σ') t.heap) A) args s 0 0 A) (F0 m 129 ls [.int y4, .int y3, .int y2, .ref (ad 0), .int y0]) := by
        intro x1 x2 x3 x6 x8 y0 y2 y3 y4 s0 H locs ls h Y hl
        unfold m_goes_J129 at h
        refine lv_iadd X.1 X.2.1 (dck_at da_X12_goes 75 rfl) ?_
        refine lv_iconst X.1 X.2.1 (dck_at da_X12_goes 76 rfl) ki_4 ?_
        refine lv_irem X.1 X.2.1 (dck_at da_X12_goes 77 rfl) (by decide) ?_
        refine lv_iload X.1 X.2.1 (dck_at da_X12_goes 78 rfl) (lv_at hl 5 rfl) ?_
        obtain ⟨r4, s4, hc, h⟩ := gB2_some h
        refine gr_backi Y (gr_runV (as := [.int y2, .int ((y3 + y4) - (y3 + y4) / (4 : Int32) * (4 : Int32)), .int x8]) (rest := [.int y0]) X G Y (ok_m_weight hc) cv_RX12_199 clM_0 ⟨Nat.le_of_ble_eq_true rfl, Nat.le_of_ble_eq_true rfl⟩ rfl hl.1 (Nat.le_of_ble_eq_true rfl) (dck_at da_X12_goes 79 rfl)) (fun H locs Y => ?_)
        refine lv_iadd X.1 X.2.1 (dck_at da_X12_goes 80 rfl) ?_
        refine lv_istore (lv' := [(7, .int (y0 + r4)), (0, .ref (ad 0)), (1, .int x1), (2, .int x2), (3, .long x3), (6, .int x6), (8, .int x8)]) X.1 X.2.1 (dck_at da_X12_goes 81 rfl) hl (by decide) rfl (fun ls hl => ?_)
        refine lv_iinc (v := x8 + (1 : Int32)) (lv' := [(8, .int (x8 + (1 : Int32))), (7, .int (y0 + r4)), (0, .ref (ad 0)), (1, .int x1), (2, .int x2), (3, .long x3), (6, .int x6)]) X.1 X.2.1 (dck_at da_X12_goes 82 rfl) hl (k := 6) rfl (congrArg (HAdd.hAdd _) ki_1) (by decide) rfl (fun ls hl => ?_)
        refine lv_goto (tgt := 87) X.1 X.2.1 (dck_at da_X12_goes 83 rfl) rfl ?_
        exact hk87 x1 x2 x3 x6 (y0 + r4) (x8 + (1 : Int32)) s4 _ _ _ h Y (lv_sub hl [2, 3, 4, 5, 6, 1, 0] rfl)
      intro x1 x2 x3 x6 x7 x8 s0 H locs ls h Y hl
      unfold m_goes_L87b at h
      refine lv_iload X.1 X.2.1 (dck_at da_X12_goes 52 rfl) (lv_at hl 6 rfl) ?_
      refine lv_iconst X.1 X.2.1 (dck_at da_X12_goes 53 rfl) ki_4 ?_
      refine lv_icmp_ge (tgt := 146) X.1 X.2.1 (dck_at da_X12_goes 54 rfl) rfl (fun c => ?_) (fun c => ?_)
      · have h := gI_pos h c
        refine lv_lload_n X.1 X.2.1 (dck_at da_X12_goes 84 rfl) rfl (lv_at hl 3 rfl) ?_
        refine lv_lstore (lv' := [(8, .long x3), (0, .ref (ad 0)), (1, .int x1), (2, .int x2), (3, .long x3), (6, .int x6), (7, .int x7)]) X.1 X.2.1 (dck_at da_X12_goes 85 rfl) hl (by decide) rfl (fun ls hl => ?_)
        refine lv_iconst X.1 X.2.1 (dck_at da_X12_goes 86 rfl) ki_0 ?_
        refine lv_istore (lv' := [(10, .int (0 : Int32)), (8, .long x3), (0, .ref (ad 0)), (1, .int x1), (2, .int x2), (3, .long x3), (6, .int x6), (7, .int x7)]) X.1 X.2.1 (dck_at da_X12_goes 87 rfl) hl (by decide) rfl (fun ls hl => ?_)
        exact b152 F x1 x2 x3 x6 x7 x3 (0 : Int32) s0 _ _ _ h Y (lv_sub hl [2, 3, 4, 5, 6, 7, 1, 0] rfl)
      · have h := gI_neg h c
        refine lv_iload X.1 X.2.1 (dck_at da_X12_goes 55 rfl) (lv_at hl 5 rfl) ?_
        refine lv_aload_n X.1 X.2.1 (dck_at da_X12_goes 56 rfl) rfl (lv_at hl 0 rfl) ?_
        refine lv_iload_n X.1 X.2.1 (dck_at da_X12_goes 57 rfl) rfl (lv_at hl 1 rfl) ?_
        refine lv_iload_n X.1 X.2.1 (dck_at da_X12_goes 58 rfl) rfl (lv_at hl 2 rfl) ?_
        refine lv_iload X.1 X.2.1 (dck_at da_X12_goes 59 rfl) (lv_at hl 6 rfl) ?_
        refine lv_iconst X.1 X.2.1 (dck_at da_X12_goes 60 rfl) ki_1 ?_
        refine lv_icmp_ne (tgt := 108) X.1 X.2.1 (dck_at da_X12_goes 61 rfl) rfl (fun c => ?_) (fun c => ?_)
        · have h := gI_neg h c
          refine lv_iload X.1 X.2.1 (dck_at da_X12_goes 64 rfl) (lv_at hl 6 rfl) ?_
          refine lv_iconst X.1 X.2.1 (dck_at da_X12_goes 65 rfl) ki_2 ?_
          refine lv_icmp_ne (tgt := 118) X.1 X.2.1 (dck_at da_X12_goes 66 rfl) rfl (fun c => ?_) (fun c => ?_)
          · have h := gI_neg h c
            refine lv_iload X.1 X.2.1 (dck_at da_X12_goes 69 rfl) (lv_at hl 6 rfl) ?_
            refine lv_iconst X.1 X.2.1 (dck_at da_X12_goes 70 rfl) ki_3 ?_
            refine lv_icmp_ne (tgt := 128) X.1 X.2.1 (dck_at da_X12_goes 71 rfl) rfl (fun c => ?_) (fun c => ?_)
            · have h := gI_neg h c
              refine lv_iconst X.1 X.2.1 (dck_at da_X12_goes 74 rfl) ki_0 ?_
              exact b129 x1 x2 x3 x6 x8 x7 x1 x2 (0 : Int32) s0 _ _ _ h Y (lv_sub hl [0, 1, 2, 3, 4, 6] rfl)
            · have h := gI_pos h c
              refine lv_iconst X.1 X.2.1 (dck_at da_X12_goes 72 rfl) ki_2 ?_
              refine lv_goto (tgt := 129) X.1 X.2.1 (dck_at da_X12_goes 73 rfl) rfl ?_
              exact b129 x1 x2 x3 x6 x8 x7 x1 x2 (2 : Int32) s0 _ _ _ h Y (lv_sub hl [0, 1, 2, 3, 4, 6] rfl)
          · have h := gI_pos h c
            refine lv_iconst X.1 X.2.1 (dck_at da_X12_goes 67 rfl) ki_1 ?_
            refine lv_goto (tgt := 129) X.1 X.2.1 (dck_at da_X12_goes 68 rfl) rfl ?_
            exact b129 x1 x2 x3 x6 x8 x7 x1 x2 (1 : Int32) s0 _ _ _ h Y (lv_sub hl [0, 1, 2, 3, 4, 6] rfl)
        · have h := gI_pos h c
          refine lv_iconst X.1 X.2.1 (dck_at da_X12_goes 62 rfl) ki_3 ?_
          refine lv_goto (tgt := 129) X.1 X.2.1 (dck_at da_X12_goes 63 rfl) rfl ?_
          exact b129 x1 x2 x3 x6 x8 x7 x1 x2 (3 : Int32) s0 _ _ _ h Y (lv_sub hl [0, 1, 2, 3, 4, 6] rfl)
  have b75 : ∀ (x1 : Int32) (x2 : Int32) (x3 : Int64) (x5 : Int32) (y0 : Int32) (s0 : St) (H : Heap) (locs : List Loc) (ls : Array Slot), m_goes_J75 F  x1 x2 x3 x5 y0 s0 = some σ' → gY shM D cy ad A s0 s H locs → lv_has ls 15 [(0, .ref (ad 0)), (1, .int x1), (2, .int x2), (3, .long x3), (5, .int x5)] → W p l e (grm 4) s m args below meth c H locs 0 0 (MQ below (va_Qv (fun (_ : Unit) => True) (fun _ t => va_P D vwCl (gWl shM cy ad σ') t.heap) A) args s 0 0 A) (F0 m 75 ls [.int y0]) := by
    intro x1 x2 x3 x5 y0 s0 H locs ls h Y hl
    unfold m_goes_J75 at h
    refine lv_istore (lv' := [(6, .int y0), (0, .ref (ad 0)), (1, .int x1), (2, .int x2), (3, .long x3), (5, .int x5)]) X.1 X.2.1 (dck_at da_X12_goes 45 rfl) hl (by decide) rfl (fun ls hl => ?_)
    refine lv_iload X.1 X.2.1 (dck_at da_X12_goes 46 rfl) (lv_at hl 5 rfl) ?_
    refine lv_iload X.1 X.2.1 (dck_at da_X12_goes 47 rfl) (lv_at hl 0 rfl) ?_
    refine lv_iadd X.1 X.2.1 (dck_at da_X12_goes 48 rfl) ?_
    refine lv_istore (lv' := [(7, .int (x5 + y0)), (6, .int y0), (0, .ref (ad 0)), (1, .int x1), (2, .int x2), (3, .long x3), (5, .int x5)]) X.1 X.2.1 (dck_at da_X12_goes 49 rfl) hl (by decide) rfl (fun ls hl => ?_)
    refine lv_iconst X.1 X.2.1 (dck_at da_X12_goes 50 rfl) ki_0 ?_
    refine lv_istore (lv' := [(8, .int (0 : Int32)), (7, .int (x5 + y0)), (6, .int y0), (0, .ref (ad 0)), (1, .int x1), (2, .int x2), (3, .long x3), (5, .int x5)]) X.1 X.2.1 (dck_at da_X12_goes 51 rfl) hl (by decide) rfl (fun ls hl => ?_)
    exact b87 F x1 x2 x3 y0 (x5 + y0) (0 : Int32) s0 _ _ _ h Y (lv_sub hl [3, 4, 5, 6, 2, 1, 0] rfl)
  have b74 : ∀ (x1 : Int32) (x2 : Int32) (x3 : Int64) (x5 : Int32) (s0 : St) (H : Heap) (locs : List Loc) (ls : Array Slot), m_goes_J74 F  x1 x2 x3 x5 s0 = some σ' → gY shM D cy ad A s0 s H locs → lv_has ls 15 [(0, .ref (ad 0)), (1, .int x1), (2, .int x2), (3, .long x3), (5, .int x5)] → W p l e (grm 4) s m args below meth c H locs 0 0 (MQ below (va_Qv (fun (_ : Unit) => True) (fun _ t => va_P D vwCl (gWl shM cy ad σ') t.heap) A) args s 0 0 A) (F0 m 74 ls []) := by
    intro x1 x2 x3 x5 s0 H locs ls h Y hl
    unfold m_goes_J74 at h
    refine lv_iconst X.1 X.2.1 (dck_at da_X12_goes 44 rfl) ki_0 ?_
    exact b75 x1 x2 x3 x5 (0 : Int32) s0 _ _ _ h Y (lv_sub hl [0, 1, 2, 3, 4] rfl)
  have b41 : ∀ (x1 : Int32) (x2 : Int32) (x3 : Int64) (y0 : Int32) (y1 : Int32) (s0 : St) (H : Heap) (locs : List Loc) (ls : Array Slot), m_goes_J41 F  x1 x2 x3 y0 y1 s0 = some σ' → gY shM D cy ad A s0 s H locs → lv_has ls 15 [(0, .ref (ad 0)), (1, .int x1), (2, .int x2), (3, .long x3)] → W p l e (grm 4) s m args below meth c H locs 0 0 (MQ below (va_Qv (fun (_ : Unit) => True) (fun _ t => va_P D vwCl (gWl shM cy ad σ') t.heap) A) args s 0 0 A) (F0 m 41 ls [.int y1, .int y0]) := by
    intro x1 x2 x3 y0 y1 s0 H locs ls h Y hl
    unfold m_goes_J41 at h
    refine lv_iadd X.1 X.2.1 (dck_at da_X12_goes 26 rfl) ?_
    refine lv_istore (lv' := [(5, .int (y0 + y1)), (0, .ref (ad 0)), (1, .int x1), (2, .int x2), (3, .long x3)]) X.1 X.2.1 (dck_at da_X12_goes 27 rfl) hl (by decide) rfl (fun ls hl => ?_)
    refine lv_aload_n X.1 X.2.1 (dck_at da_X12_goes 28 rfl) rfl (lv_at hl 1 rfl) ?_
    refine gr_getR X G Y fk_RX12_13 clM_0 rfl (dck_at da_X12_goes 29 rfl) ?_
    refine lv_iload_n X.1 X.2.1 (dck_at da_X12_goes 30 rfl) rfl (lv_at hl 2 rfl) ?_
    obtain ⟨hin, h⟩ := gI_if h
    refine gr_iald X G Y clM_2 hin (dck_at da_X12_goes 31 rfl) ?_
    refine lv_bipush X.1 X.2.1 (dck_at da_X12_goes 32 rfl) kb_6 ?_
    refine lv_icmp_ne (tgt := 74) X.1 X.2.1 (dck_at da_X12_goes 33 rfl) rfl (fun c => ?_) (fun c => ?_)
    · have h := gI_neg h c
      exact b74 x1 x2 x3 (y0 + y1) s0 _ _ _ h Y (lv_sub hl [1, 2, 3, 4, 0] rfl)
    · have h := gI_pos h c
      refine lv_aload_n X.1 X.2.1 (dck_at da_X12_goes 34 rfl) rfl (lv_at hl 1 rfl) ?_
      refine gr_getI X G Y fk_RX12_107 clM_0 rfl (dck_at da_X12_goes 35 rfl) ?_
      refine lv_bipush X.1 X.2.1 (dck_at da_X12_goes 36 rfl) kb_15 ?_
      refine lv_irem X.1 X.2.1 (dck_at da_X12_goes 37 rfl) (by decide) ?_
      refine lv_if_ne (tgt := 74) X.1 X.2.1 (dck_at da_X12_goes 38 rfl) rfl (fun c => ?_) (fun c => ?_)
      · have h := gI_neg h c
        exact b74 x1 x2 x3 (y0 + y1) s0 _ _ _ h Y (lv_sub hl [1, 2, 3, 4, 0] rfl)
      · have h := gI_pos h c
        refine lv_aload_n X.1 X.2.1 (dck_at da_X12_goes 39 rfl) rfl (lv_at hl 1 rfl) ?_
        refine gr_getR X G Y fk_RX12_22 clM_0 rfl (dck_at da_X12_goes 40 rfl) ?_
        refine lv_iconst X.1 X.2.1 (dck_at da_X12_goes 41 rfl) ki_5 ?_
        obtain ⟨hin, h⟩ := gI_if h
        refine gr_iald X G Y clM_5 hin (dck_at da_X12_goes 42 rfl) ?_
        refine lv_goto (tgt := 75) X.1 X.2.1 (dck_at da_X12_goes 43 rfl) rfl ?_
        exact b75 x1 x2 x3 (y0 + y1) (s0.1 5 ((5 : Int32)).toNatClampNeg) s0 _ _ _ h Y (lv_sub hl [1, 2, 3, 4, 0] rfl)
  unfold m_goes at h
  refine lv_aload_n X.1 X.2.1 (dck_at da_X12_goes 0 rfl) rfl (lv_at hl 0 rfl) ?_
  refine gr_getR X G Y fk_RX12_34 clM_0 rfl (dck_at da_X12_goes 1 rfl) ?_
  refine lv_iconst X.1 X.2.1 (dck_at da_X12_goes 2 rfl) ki_5 ?_
  refine lv_iload_n X.1 X.2.1 (dck_at da_X12_goes 3 rfl) rfl (lv_at hl 1 rfl) ?_
  refine lv_imul X.1 X.2.1 (dck_at da_X12_goes 4 rfl) ?_
  refine lv_iload_n X.1 X.2.1 (dck_at da_X12_goes 5 rfl) rfl (lv_at hl 2 rfl) ?_
  refine lv_iadd X.1 X.2.1 (dck_at da_X12_goes 6 rfl) ?_
  obtain ⟨hin, h⟩ := gI_if h
  refine gr_lald X G Y clM_9 hin (dck_at da_X12_goes 7 rfl) ?_
  refine lv_lstore_n (lv' := [(3, .long (s0.2 9 (((5 : Int32) * a1) + a2).toNatClampNeg)), (0, .ref (ad 0)), (1, .int a1), (2, .int a2)]) X.1 X.2.1 (dck_at da_X12_goes 8 rfl) rfl hl (by decide) rfl (fun ls hl => ?_)
  refine lv_aload_n X.1 X.2.1 (dck_at da_X12_goes 9 rfl) rfl (lv_at hl 1 rfl) ?_
  refine gr_getR X G Y fk_RX12_25 clM_0 rfl (dck_at da_X12_goes 10 rfl) ?_
  refine lv_aload_n X.1 X.2.1 (dck_at da_X12_goes 11 rfl) rfl (lv_at hl 1 rfl) ?_
  refine gr_getR X G Y fk_RX12_13 clM_0 rfl (dck_at da_X12_goes 12 rfl) ?_
  refine lv_iload_n X.1 X.2.1 (dck_at da_X12_goes 13 rfl) rfl (lv_at hl 2 rfl) ?_
  obtain ⟨hin, h⟩ := gI_if h
  refine gr_iald X G Y clM_2 hin (dck_at da_X12_goes 14 rfl) ?_
  obtain ⟨hin, h⟩ := gI_if h
  refine gr_iald X G Y clM_6 hin (dck_at da_X12_goes 15 rfl) ?_
  refine lv_aload_n X.1 X.2.1 (dck_at da_X12_goes 16 rfl) rfl (lv_at hl 1 rfl) ?_
  refine gr_getI X G Y fk_RX12_107 clM_0 rfl (dck_at da_X12_goes 17 rfl) ?_
  refine lv_bipush X.1 X.2.1 (dck_at da_X12_goes 18 rfl) kb_120 ?_
  refine lv_icmp_lt (tgt := 40) X.1 X.2.1 (dck_at da_X12_goes 19 rfl) rfl (fun c => ?_) (fun c => ?_)
  · have h := gI_pos h c
    refine lv_iconst X.1 X.2.1 (dck_at da_X12_goes 25 rfl) ki_0 ?_
    exact b41 a1 a2 (s0.2 9 (((5 : Int32) * a1) + a2).toNatClampNeg) (s0.1 6 (s0.1 2 (a1).toNatClampNeg).toNatClampNeg) (0 : Int32) s0 _ _ _ h Y (lv_sub hl [1, 2, 3, 0] rfl)
  · have h := gI_neg h c
    refine lv_aload_n X.1 X.2.1 (dck_at da_X12_goes 20 rfl) rfl (lv_at hl 1 rfl) ?_
    refine gr_getR X G Y fk_RX12_22 clM_0 rfl (dck_at da_X12_goes 21 rfl) ?_
    refine lv_iconst X.1 X.2.1 (dck_at da_X12_goes 22 rfl) ki_4 ?_
    obtain ⟨hin, h⟩ := gI_if h
    refine gr_iald X G Y clM_5 hin (dck_at da_X12_goes 23 rfl) ?_
    refine lv_goto (tgt := 41) X.1 X.2.1 (dck_at da_X12_goes 24 rfl) rfl ?_
    exact b41 a1 a2 (s0.2 9 (((5 : Int32) * a1) + a2).toNatClampNeg) (s0.1 6 (s0.1 2 (a1).toNatClampNeg).toNatClampNeg) (s0.1 5 ((4 : Int32)).toNatClampNeg) s0 _ _ _ h Y (lv_sub hl [1, 2, 3, 0] rfl)
