/-! each method does what its mirror says -/
set_option maxRecDepth 100000 in
set_option maxHeartbeats 4000000 in
theorem ok_c_reasonOf {l : Launch} {D : va_G} {cy : Nat → ClassId} {ad sa : Nat → Nat} {A : Nat → Prop} {F : Nat} {a0 : Int32} {s0 : St} {ρ : Int32} {σ' : St} (h : c_reasonOf F a0 s0 = some (ρ, σ')) : gMi l shC D cy ad sa A yX11_reasonOf cX11_reasonOf 1 (some .int) 1 [.int a0] s0 ρ σ' := by
  refine gM_of (by decide) (Nat.le_of_ble_eq_true rfl) ?_
  intro p e s m args below meth c ls X G Y hr hlk hl
  have hl : lv_has ls 1 [(0, .int a0)] := hl
  unfold c_reasonOf at h
  refine lv_iload_n X.1 X.2.1 (dck_at da_X11_reasonOf 0 rfl) rfl (lv_at hl 0 rfl) ?_
  refine lv_bipush X.1 X.2.1 (dck_at da_X11_reasonOf 1 rfl) kb_m4 ?_
  refine lv_icmp_lt (tgt := 10) X.1 X.2.1 (dck_at da_X11_reasonOf 2 rfl) rfl (fun c => ?_) (fun c => ?_)
  · have h := gI_pos h c
    refine lv_iload_n X.1 X.2.1 (dck_at da_X11_reasonOf 7 rfl) rfl (lv_at hl 0 rfl) ?_
    refine lv_bipush X.1 X.2.1 (dck_at da_X11_reasonOf 8 rfl) kb_m20 ?_
    refine lv_icmp_gt (tgt := 21) X.1 X.2.1 (dck_at da_X11_reasonOf 9 rfl) rfl (fun c => ?_) (fun c => ?_)
    · have h := gI_pos h c
      refine lv_bipush X.1 X.2.1 (dck_at da_X11_reasonOf 12 rfl) kb_m11 ?_
      refine lv_iload_n X.1 X.2.1 (dck_at da_X11_reasonOf 13 rfl) rfl (lv_at hl 0 rfl) ?_
      refine lv_isub X.1 X.2.1 (dck_at da_X11_reasonOf 14 rfl) ?_
      refine lv_iconst X.1 X.2.1 (dck_at da_X11_reasonOf 15 rfl) ki_4 ?_
      refine lv_iadd X.1 X.2.1 (dck_at da_X11_reasonOf 16 rfl) ?_
      exact gr_iretO X Y h hr rfl hlk (dck_at da_X11_reasonOf 17 rfl)
    · have h := gI_neg h c
      refine lv_bipush X.1 X.2.1 (dck_at da_X11_reasonOf 10 rfl) kb_8 ?_
      refine lv_goto (tgt := 27) X.1 X.2.1 (dck_at da_X11_reasonOf 11 rfl) rfl ?_
      exact gr_iretO X Y h hr rfl hlk (dck_at da_X11_reasonOf 17 rfl)
  · have h := gI_neg h c
    refine lv_iconst X.1 X.2.1 (dck_at da_X11_reasonOf 3 rfl) ki_m1 ?_
    refine lv_iload_n X.1 X.2.1 (dck_at da_X11_reasonOf 4 rfl) rfl (lv_at hl 0 rfl) ?_
    refine lv_isub X.1 X.2.1 (dck_at da_X11_reasonOf 5 rfl) ?_
    exact gr_iretO X Y h hr rfl hlk (dck_at da_X11_reasonOf 6 rfl)
set_option maxRecDepth 100000 in
set_option maxHeartbeats 4000000 in
theorem ok_c_isIn {l : Launch} {D : va_G} {cy : Nat → ClassId} {ad sa : Nat → Nat} {A : Nat → Prop} {F : Nat} {a0 : Int32} {a1 : Int32} {a2 : Int32} {s0 : St} {ρ : Int32} {σ' : St} (h : c_isIn F a0 a1 a2 s0 = some (ρ, σ')) : gMi l shC D cy ad sa A yX11_isIn cX11_isIn 3 (some .boolean) 1 [.int a0, .int a1, .int a2] s0 ρ σ' := by
  refine gM_of (by decide) (Nat.le_of_ble_eq_true rfl) ?_
  intro p e s m args below meth c ls X G Y hr hlk hl
  have hl : lv_has ls 3 [(0, .int a0), (1, .int a1), (2, .int a2)] := hl
  have b14 : ∀  (s0 : St) (H : Heap) (locs : List Loc) (ls : Array Slot), c_isIn_J14 F  s0 = some (ρ, σ') → gY shC D cy ad A s0 s H locs → lv_has ls 3 [] → W p l e (grm 1) s m args below meth c H locs 0 0 (MQ below (va_Qi (fun (q : Int32) (_ : Unit) => q = ρ) (fun _ t => va_P D vwCl (gWl shC cy ad σ') t.heap) A) args s 0 0 A) (F0 m 14 ls []) := by
    intro s0 H locs ls h Y hl
    unfold c_isIn_J14 at h
    refine lv_iconst X.1 X.2.1 (dck_at da_X11_isIn 8 rfl) ki_0 ?_
    exact gr_iretO X Y h hr rfl hlk (dck_at da_X11_isIn 9 rfl)
  unfold c_isIn at h
  refine lv_iload_n X.1 X.2.1 (dck_at da_X11_isIn 0 rfl) rfl (lv_at hl 0 rfl) ?_
  refine lv_iload_n X.1 X.2.1 (dck_at da_X11_isIn 1 rfl) rfl (lv_at hl 1 rfl) ?_
  refine lv_icmp_lt (tgt := 14) X.1 X.2.1 (dck_at da_X11_isIn 2 rfl) rfl (fun c => ?_) (fun c => ?_)
  · have h := gI_pos h c
    exact b14 s0 _ _ _ h Y (lv_sub hl [] rfl)
  · have h := gI_neg h c
    refine lv_iload_n X.1 X.2.1 (dck_at da_X11_isIn 3 rfl) rfl (lv_at hl 0 rfl) ?_
    refine lv_iload_n X.1 X.2.1 (dck_at da_X11_isIn 4 rfl) rfl (lv_at hl 2 rfl) ?_
    refine lv_icmp_gt (tgt := 14) X.1 X.2.1 (dck_at da_X11_isIn 5 rfl) rfl (fun c => ?_) (fun c => ?_)
    · have h := gI_pos h c
      exact b14 s0 _ _ _ h Y (lv_sub hl [] rfl)
    · have h := gI_neg h c
      refine lv_iconst X.1 X.2.1 (dck_at da_X11_isIn 6 rfl) ki_1 ?_
      refine lv_goto (tgt := 15) X.1 X.2.1 (dck_at da_X11_isIn 7 rfl) rfl ?_
      exact gr_iretO X Y h hr rfl hlk (dck_at da_X11_isIn 9 rfl)
set_option maxRecDepth 100000 in
set_option maxHeartbeats 4000000 in
theorem ok_c_refuse {l : Launch} {D : va_G} {cy : Nat → ClassId} {ad sa : Nat → Nat} {A : Nat → Prop} {F : Nat} {a1 : Int32} {s0 : St} {ρ : Int32} {σ' : St} (h : c_refuse F a1 s0 = some (ρ, σ')) : gMi l shC D cy ad sa A yX11_refuse cX11_refuse 3 (some .int) 2 [.ref (ad 0), .int a1] s0 ρ σ' := by
  refine gM_of (by decide) (Nat.le_of_ble_eq_true rfl) ?_
  intro p e s m args below meth c ls X G Y hr hlk hl
  have hl : lv_has ls 3 [(0, .ref (ad 0)), (1, .int a1)] := hl
  unfold c_refuse at h
  refine lv_iload_n X.1 X.2.1 (dck_at da_X11_refuse 0 rfl) rfl (lv_at hl 1 rfl) ?_
  obtain ⟨r1, s1, hc, h⟩ := gB2_some h
  refine gr_backi Y (gr_runS (as := [.int a1]) (rest := []) X G Y (ok_c_reasonOf hc) cs_RX11_365 ⟨Nat.le_of_ble_eq_true rfl, Nat.le_of_ble_eq_true rfl⟩ rfl hl.1 (Nat.le_of_ble_eq_true rfl) (dck_at da_X11_refuse 1 rfl)) (fun H locs Y => ?_)
  refine lv_istore_n (lv' := [(2, .int r1), (0, .ref (ad 0)), (1, .int a1)]) X.1 X.2.1 (dck_at da_X11_refuse 2 rfl) rfl hl (by decide) rfl (fun ls hl => ?_)
  refine lv_iload_n X.1 X.2.1 (dck_at da_X11_refuse 3 rfl) rfl (lv_at hl 0 rfl) ?_
  refine lv_iconst X.1 X.2.1 (dck_at da_X11_refuse 4 rfl) ki_0 ?_
  refine lv_bipush X.1 X.2.1 (dck_at da_X11_refuse 5 rfl) kb_8 ?_
  obtain ⟨r2, s2, hc, h⟩ := gB2_some h
  refine gr_backi Y (gr_runS (as := [.int r1, .int (0 : Int32), .int (8 : Int32)]) (rest := []) X G Y (ok_c_isIn hc) cs_RX11_68 ⟨Nat.le_of_ble_eq_true rfl, Nat.le_of_ble_eq_true rfl⟩ rfl hl.1 (Nat.le_of_ble_eq_true rfl) (dck_at da_X11_refuse 6 rfl)) (fun H locs Y => ?_)
  refine lv_if_eq (tgt := 37) X.1 X.2.1 (dck_at da_X11_refuse 7 rfl) rfl (fun c => ?_) (fun c => ?_)
  · have h := gI_pos h c
    refine lv_iload_n X.1 X.2.1 (dck_at da_X11_refuse 22 rfl) rfl (lv_at hl 2 rfl) ?_
    exact gr_iretO X Y h hr rfl hlk (dck_at da_X11_refuse 23 rfl)
  · have h := gI_neg h c
    refine lv_aload_n X.1 X.2.1 (dck_at da_X11_refuse 8 rfl) rfl (lv_at hl 1 rfl) ?_
    refine gr_getR X G Y fk_RX11_40 clC_0 rfl (dck_at da_X11_refuse 9 rfl) ?_
    refine lv_iload_n X.1 X.2.1 (dck_at da_X11_refuse 10 rfl) rfl (lv_at hl 0 rfl) ?_
    obtain ⟨hin, h⟩ := gI_if h
    refine gr_iald X G Y clC_80 hin (dck_at da_X11_refuse 11 rfl) ?_
    refine lv_ldcw X.1 X.2.1 X.2.2.2.1 (X.2.2.2.2 _ wm_397) (dck_at da_X11_refuse 12 rfl) ?_
    refine lv_icmp_ge (tgt := 37) X.1 X.2.1 (dck_at da_X11_refuse 13 rfl) rfl (fun c => ?_) (fun c => ?_)
    · have h := gI_pos h c
      refine lv_iload_n X.1 X.2.1 (dck_at da_X11_refuse 22 rfl) rfl (lv_at hl 2 rfl) ?_
      exact gr_iretO X Y h hr rfl hlk (dck_at da_X11_refuse 23 rfl)
    · have h := gI_neg h c
      refine lv_aload_n X.1 X.2.1 (dck_at da_X11_refuse 14 rfl) rfl (lv_at hl 1 rfl) ?_
      refine gr_getR X G Y fk_RX11_40 clC_0 rfl (dck_at da_X11_refuse 15 rfl) ?_
      refine lv_iload_n X.1 X.2.1 (dck_at da_X11_refuse 16 rfl) rfl (lv_at hl 0 rfl) ?_
      refine lv_dup2_11 X.1 X.2.1 (dck_at da_X11_refuse 17 rfl) rfl rfl ?_
      obtain ⟨hin, h⟩ := gI_if h
      refine gr_iald X G Y clC_80 hin (dck_at da_X11_refuse 18 rfl) ?_
      refine lv_iconst X.1 X.2.1 (dck_at da_X11_refuse 19 rfl) ki_1 ?_
      refine lv_iadd X.1 X.2.1 (dck_at da_X11_refuse 20 rfl) ?_
      obtain ⟨hin, h⟩ := gI_if h
      refine gr_iast X G Y clC_80 hin (dck_at da_X11_refuse 21 rfl) (fun H locs Y => ?_)
      refine lv_iload_n X.1 X.2.1 (dck_at da_X11_refuse 22 rfl) rfl (lv_at hl 2 rfl) ?_
      exact gr_iretO X Y h hr rfl hlk (dck_at da_X11_refuse 23 rfl)
set_option maxRecDepth 100000 in
set_option maxHeartbeats 4000000 in
theorem ok_c_isCell {l : Launch} {D : va_G} {cy : Nat → ClassId} {ad sa : Nat → Nat} {A : Nat → Prop} {F : Nat} {a0 : Int32} {s0 : St} {ρ : Int32} {σ' : St} (h : c_isCell F a0 s0 = some (ρ, σ')) : gMi l shC D cy ad sa A yX11_isCell cX11_isCell 1 (some .boolean) 2 [.int a0] s0 ρ σ' := by
  refine gM_of (by decide) (Nat.le_of_ble_eq_true rfl) ?_
  intro p e s m args below meth c ls X G Y hr hlk hl
  have hl : lv_has ls 1 [(0, .int a0)] := hl
  unfold c_isCell at h
  refine lv_iload_n X.1 X.2.1 (dck_at da_X11_isCell 0 rfl) rfl (lv_at hl 0 rfl) ?_
  refine lv_iconst X.1 X.2.1 (dck_at da_X11_isCell 1 rfl) ki_0 ?_
  refine lv_sipush X.1 X.2.1 (dck_at da_X11_isCell 2 rfl) ks_143 ?_
  obtain ⟨r1, s1, hc, h⟩ := gB2_some h
  refine gr_backi Y (gr_runS (as := [.int a0, .int (0 : Int32), .int (143 : Int32)]) (rest := []) X G Y (ok_c_isIn hc) cs_RX11_68 ⟨Nat.le_of_ble_eq_true rfl, Nat.le_of_ble_eq_true rfl⟩ rfl hl.1 (Nat.le_of_ble_eq_true rfl) (dck_at da_X11_isCell 3 rfl)) (fun H locs Y => ?_)
  obtain ⟨hz, h⟩ := gI_if h
  exact gr_iretO X Y h hr (gz_nar hz) hlk (dck_at da_X11_isCell 4 rfl)
set_option maxRecDepth 100000 in
set_option maxHeartbeats 4000000 in
theorem ok_c_isKind {l : Launch} {D : va_G} {cy : Nat → ClassId} {ad sa : Nat → Nat} {A : Nat → Prop} {F : Nat} {a0 : Int32} {s0 : St} {ρ : Int32} {σ' : St} (h : c_isKind F a0 s0 = some (ρ, σ')) : gMi l shC D cy ad sa A yX11_isKind cX11_isKind 1 (some .boolean) 2 [.int a0] s0 ρ σ' := by
  refine gM_of (by decide) (Nat.le_of_ble_eq_true rfl) ?_
  intro p e s m args below meth c ls X G Y hr hlk hl
  have hl : lv_has ls 1 [(0, .int a0)] := hl
  unfold c_isKind at h
  refine lv_iload_n X.1 X.2.1 (dck_at da_X11_isKind 0 rfl) rfl (lv_at hl 0 rfl) ?_
  refine lv_iconst X.1 X.2.1 (dck_at da_X11_isKind 1 rfl) ki_0 ?_
  refine lv_bipush X.1 X.2.1 (dck_at da_X11_isKind 2 rfl) kb_7 ?_
  obtain ⟨r1, s1, hc, h⟩ := gB2_some h
  refine gr_backi Y (gr_runS (as := [.int a0, .int (0 : Int32), .int (7 : Int32)]) (rest := []) X G Y (ok_c_isIn hc) cs_RX11_68 ⟨Nat.le_of_ble_eq_true rfl, Nat.le_of_ble_eq_true rfl⟩ rfl hl.1 (Nat.le_of_ble_eq_true rfl) (dck_at da_X11_isKind 3 rfl)) (fun H locs Y => ?_)
  obtain ⟨hz, h⟩ := gI_if h
  exact gr_iretO X Y h hr (gz_nar hz) hlk (dck_at da_X11_isKind 4 rfl)
set_option maxRecDepth 100000 in
set_option maxHeartbeats 4000000 in
theorem ok_c_kind {l : Launch} {D : va_G} {cy : Nat → ClassId} {ad sa : Nat → Nat} {A : Nat → Prop} {F : Nat} {a1 : Int32} {a2 : Int32} {s0 : St} {ρ : Int32} {σ' : St} (h : c_kind F a1 a2 s0 = some (ρ, σ')) : gMi l shC D cy ad sa A yX11_kind cX11_kind 4 (some .int) 3 [.ref (ad 0), .int a1, .int a2] s0 ρ σ' := by
  refine gM_of (by decide) (Nat.le_of_ble_eq_true rfl) ?_
  intro p e s m args below meth c ls X G Y hr hlk hl
  have hl : lv_has ls 4 [(0, .ref (ad 0)), (1, .int a1), (2, .int a2)] := hl
  have b14 : ∀  (s0 : St) (H : Heap) (locs : List Loc) (ls : Array Slot), c_kind_J14 F  s0 = some (ρ, σ') → gY shC D cy ad A s0 s H locs → lv_has ls 4 [(0, .ref (ad 0))] → W p l e (grm 3) s m args below meth c H locs 0 0 (MQ below (va_Qi (fun (q : Int32) (_ : Unit) => q = ρ) (fun _ t => va_P D vwCl (gWl shC cy ad σ') t.heap) A) args s 0 0 A) (F0 m 14 ls []) := by
    intro s0 H locs ls h Y hl
    unfold c_kind_J14 at h
    refine lv_aload_n X.1 X.2.1 (dck_at da_X11_kind 6 rfl) rfl (lv_at hl 0 rfl) ?_
    refine lv_iconst X.1 X.2.1 (dck_at da_X11_kind 7 rfl) ki_m1 ?_
    obtain ⟨r1, s1, hc, h⟩ := gB2_some h
    refine gr_backi Y (gr_runV (as := [.int (-1 : Int32)]) (rest := []) X G Y (ok_c_refuse hc) cv_RX11_55 clC_0 ⟨Nat.le_of_ble_eq_true rfl, Nat.le_of_ble_eq_true rfl⟩ rfl hl.1 (Nat.le_of_ble_eq_true rfl) (dck_at da_X11_kind 8 rfl)) (fun H locs Y => ?_)
    exact gr_iretO X Y h hr rfl hlk (dck_at da_X11_kind 9 rfl)
  unfold c_kind at h
  refine lv_iload_n X.1 X.2.1 (dck_at da_X11_kind 0 rfl) rfl (lv_at hl 1 rfl) ?_
  obtain ⟨r2, s2, hc, h⟩ := gB2_some h
  refine gr_backi Y (gr_runS (as := [.int a1]) (rest := []) X G Y (ok_c_isCell hc) cs_RX11_48 ⟨Nat.le_of_ble_eq_true rfl, Nat.le_of_ble_eq_true rfl⟩ rfl hl.1 (Nat.le_of_ble_eq_true rfl) (dck_at da_X11_kind 1 rfl)) (fun H locs Y => ?_)
  refine lv_if_eq (tgt := 14) X.1 X.2.1 (dck_at da_X11_kind 2 rfl) rfl (fun c => ?_) (fun c => ?_)
  · have h := gI_pos h c
    exact b14 s2 _ _ _ h Y (lv_sub hl [0] rfl)
  · have h := gI_neg h c
    refine lv_iload_n X.1 X.2.1 (dck_at da_X11_kind 3 rfl) rfl (lv_at hl 2 rfl) ?_
    obtain ⟨r3, s3, hc, h⟩ := gB2_some h
    refine gr_backi Y (gr_runS (as := [.int a2]) (rest := []) X G Y (ok_c_isKind hc) cs_RX11_52 ⟨Nat.le_of_ble_eq_true rfl, Nat.le_of_ble_eq_true rfl⟩ rfl hl.1 (Nat.le_of_ble_eq_true rfl) (dck_at da_X11_kind 4 rfl)) (fun H locs Y => ?_)
    refine lv_if_ne (tgt := 20) X.1 X.2.1 (dck_at da_X11_kind 5 rfl) rfl (fun c => ?_) (fun c => ?_)
    · have h := gI_neg h c
      refine lv_aload_n X.1 X.2.1 (dck_at da_X11_kind 10 rfl) rfl (lv_at hl 0 rfl) ?_
      refine gr_getR X G Y fk_RX11_12 clC_0 rfl (dck_at da_X11_kind 11 rfl) ?_
      refine gr_getR X G Y fk_RX11_59 clC_1 rfl (dck_at da_X11_kind 12 rfl) ?_
      refine gr_getR X G Y fk_RX11_63 clC_2 rfl (dck_at da_X11_kind 13 rfl) ?_
      refine lv_iload_n X.1 X.2.1 (dck_at da_X11_kind 14 rfl) rfl (lv_at hl 1 rfl) ?_
      obtain ⟨hin, h⟩ := gI_if h
      refine gr_iald X G Y clC_3 hin (dck_at da_X11_kind 15 rfl) ?_
      refine lv_istore_n (lv' := [(3, .int (s3.1 3 (a1).toNatClampNeg)), (0, .ref (ad 0)), (1, .int a1), (2, .int a2)]) X.1 X.2.1 (dck_at da_X11_kind 16 rfl) rfl hl (by decide) rfl (fun ls hl => ?_)
      refine lv_aload_n X.1 X.2.1 (dck_at da_X11_kind 17 rfl) rfl (lv_at hl 1 rfl) ?_
      refine gr_getR X G Y fk_RX11_12 clC_0 rfl (dck_at da_X11_kind 18 rfl) ?_
      refine gr_getR X G Y fk_RX11_59 clC_1 rfl (dck_at da_X11_kind 19 rfl) ?_
      refine gr_getR X G Y fk_RX11_63 clC_2 rfl (dck_at da_X11_kind 20 rfl) ?_
      refine lv_iload_n X.1 X.2.1 (dck_at da_X11_kind 21 rfl) rfl (lv_at hl 2 rfl) ?_
      refine lv_iload_n X.1 X.2.1 (dck_at da_X11_kind 22 rfl) rfl (lv_at hl 3 rfl) ?_
      obtain ⟨hin, h⟩ := gI_if h
      refine gr_iast X G Y clC_3 hin (dck_at da_X11_kind 23 rfl) (fun H locs Y => ?_)
      refine lv_iload_n X.1 X.2.1 (dck_at da_X11_kind 24 rfl) rfl (lv_at hl 0 rfl) ?_
      exact gr_iretO X Y h hr rfl hlk (dck_at da_X11_kind 25 rfl)
    · have h := gI_pos h c
      exact b14 s3 _ _ _ h Y (lv_sub hl [0] rfl)
set_option maxRecDepth 100000 in
set_option maxHeartbeats 4000000 in
theorem ok_c_draw {l : Launch} {D : va_G} {cy : Nat → ClassId} {ad sa : Nat → Nat} {A : Nat → Prop} {F : Nat} {a1 : Int32} {a2 : Int32} {s0 : St} {ρ : Int32} {σ' : St} (h : c_draw F a1 a2 s0 = some (ρ, σ')) : gMi l shC D cy ad sa A yX11_draw cX11_draw 4 (some .int) 3 [.ref (ad 0), .int a1, .int a2] s0 ρ σ' := by
  refine gM_of (by decide) (Nat.le_of_ble_eq_true rfl) ?_
  intro p e s m args below meth c ls X G Y hr hlk hl
  have hl : lv_has ls 4 [(0, .ref (ad 0)), (1, .int a1), (2, .int a2)] := hl
  have b17 : ∀  (s0 : St) (H : Heap) (locs : List Loc) (ls : Array Slot), c_draw_J17 F  s0 = some (ρ, σ') → gY shC D cy ad A s0 s H locs → lv_has ls 4 [(0, .ref (ad 0))] → W p l e (grm 3) s m args below meth c H locs 0 0 (MQ below (va_Qi (fun (q : Int32) (_ : Unit) => q = ρ) (fun _ t => va_P D vwCl (gWl shC cy ad σ') t.heap) A) args s 0 0 A) (F0 m 17 ls []) := by
    intro s0 H locs ls h Y hl
    unfold c_draw_J17 at h
    refine lv_aload_n X.1 X.2.1 (dck_at da_X11_draw 8 rfl) rfl (lv_at hl 0 rfl) ?_
    refine lv_iconst X.1 X.2.1 (dck_at da_X11_draw 9 rfl) ki_m1 ?_
    obtain ⟨r1, s1, hc, h⟩ := gB2_some h
    refine gr_backi Y (gr_runV (as := [.int (-1 : Int32)]) (rest := []) X G Y (ok_c_refuse hc) cv_RX11_55 clC_0 ⟨Nat.le_of_ble_eq_true rfl, Nat.le_of_ble_eq_true rfl⟩ rfl hl.1 (Nat.le_of_ble_eq_true rfl) (dck_at da_X11_draw 10 rfl)) (fun H locs Y => ?_)
    exact gr_iretO X Y h hr rfl hlk (dck_at da_X11_draw 11 rfl)
  unfold c_draw at h
  refine lv_iload_n X.1 X.2.1 (dck_at da_X11_draw 0 rfl) rfl (lv_at hl 1 rfl) ?_
  obtain ⟨r2, s2, hc, h⟩ := gB2_some h
  refine gr_backi Y (gr_runS (as := [.int a1]) (rest := []) X G Y (ok_c_isCell hc) cs_RX11_48 ⟨Nat.le_of_ble_eq_true rfl, Nat.le_of_ble_eq_true rfl⟩ rfl hl.1 (Nat.le_of_ble_eq_true rfl) (dck_at da_X11_draw 1 rfl)) (fun H locs Y => ?_)
  refine lv_if_eq (tgt := 17) X.1 X.2.1 (dck_at da_X11_draw 2 rfl) rfl (fun c => ?_) (fun c => ?_)
  · have h := gI_pos h c
    exact b17 s2 _ _ _ h Y (lv_sub hl [0] rfl)
  · have h := gI_neg h c
    refine lv_iload_n X.1 X.2.1 (dck_at da_X11_draw 3 rfl) rfl (lv_at hl 2 rfl) ?_
    refine lv_iconst X.1 X.2.1 (dck_at da_X11_draw 4 rfl) ki_0 ?_
    refine lv_bipush X.1 X.2.1 (dck_at da_X11_draw 5 rfl) kb_9 ?_
    obtain ⟨r3, s3, hc, h⟩ := gB2_some h
    refine gr_backi Y (gr_runS (as := [.int a2, .int (0 : Int32), .int (9 : Int32)]) (rest := []) X G Y (ok_c_isIn hc) cs_RX11_68 ⟨Nat.le_of_ble_eq_true rfl, Nat.le_of_ble_eq_true rfl⟩ rfl hl.1 (Nat.le_of_ble_eq_true rfl) (dck_at da_X11_draw 6 rfl)) (fun H locs Y => ?_)
    refine lv_if_ne (tgt := 23) X.1 X.2.1 (dck_at da_X11_draw 7 rfl) rfl (fun c => ?_) (fun c => ?_)
    · have h := gI_neg h c
      refine lv_aload_n X.1 X.2.1 (dck_at da_X11_draw 12 rfl) rfl (lv_at hl 0 rfl) ?_
      refine gr_getR X G Y fk_RX11_12 clC_0 rfl (dck_at da_X11_draw 13 rfl) ?_
      refine gr_getR X G Y fk_RX11_59 clC_1 rfl (dck_at da_X11_draw 14 rfl) ?_
      refine gr_getR X G Y fk_RX11_72 clC_2 rfl (dck_at da_X11_draw 15 rfl) ?_
      refine lv_iload_n X.1 X.2.1 (dck_at da_X11_draw 16 rfl) rfl (lv_at hl 1 rfl) ?_
      obtain ⟨hin, h⟩ := gI_if h
      refine gr_iald X G Y clC_4 hin (dck_at da_X11_draw 17 rfl) ?_
      refine lv_istore_n (lv' := [(3, .int (s3.1 4 (a1).toNatClampNeg)), (0, .ref (ad 0)), (1, .int a1), (2, .int a2)]) X.1 X.2.1 (dck_at da_X11_draw 18 rfl) rfl hl (by decide) rfl (fun ls hl => ?_)
      refine lv_aload_n X.1 X.2.1 (dck_at da_X11_draw 19 rfl) rfl (lv_at hl 1 rfl) ?_
      refine gr_getR X G Y fk_RX11_12 clC_0 rfl (dck_at da_X11_draw 20 rfl) ?_
      refine gr_getR X G Y fk_RX11_59 clC_1 rfl (dck_at da_X11_draw 21 rfl) ?_
      refine gr_getR X G Y fk_RX11_72 clC_2 rfl (dck_at da_X11_draw 22 rfl) ?_
      refine lv_iload_n X.1 X.2.1 (dck_at da_X11_draw 23 rfl) rfl (lv_at hl 2 rfl) ?_
      refine lv_iload_n X.1 X.2.1 (dck_at da_X11_draw 24 rfl) rfl (lv_at hl 3 rfl) ?_
      obtain ⟨hin, h⟩ := gI_if h
      refine gr_iast X G Y clC_4 hin (dck_at da_X11_draw 25 rfl) (fun H locs Y => ?_)
      refine lv_iload_n X.1 X.2.1 (dck_at da_X11_draw 26 rfl) rfl (lv_at hl 0 rfl) ?_
      exact gr_iretO X Y h hr rfl hlk (dck_at da_X11_draw 27 rfl)
    · have h := gI_pos h c
      exact b17 s3 _ _ _ h Y (lv_sub hl [0] rfl)
set_option maxRecDepth 100000 in
set_option maxHeartbeats 4000000 in
theorem ok_c_told {l : Launch} {D : va_G} {cy : Nat → ClassId} {ad sa : Nat → Nat} {A : Nat → Prop} {F : Nat} {a1 : Int32} {a2 : Int32} {s0 : St} {ρ : Int32} {σ' : St} (h : c_told F a1 a2 s0 = some (ρ, σ')) : gMi l shC D cy ad sa A yX11_told cX11_told 3 (some .int) 3 [.ref (ad 0), .int a1, .int a2] s0 ρ σ' := by
  refine gM_of (by decide) (Nat.le_of_ble_eq_true rfl) ?_
  intro p e s m args below meth c ls X G Y hr hlk hl
  have hl : lv_has ls 3 [(0, .ref (ad 0)), (1, .int a1), (2, .int a2)] := hl
  unfold c_told at h
  refine lv_iload_n X.1 X.2.1 (dck_at da_X11_told 0 rfl) rfl (lv_at hl 1 rfl) ?_
  obtain ⟨r1, s1, hc, h⟩ := gB2_some h
  refine gr_backi Y (gr_runS (as := [.int a1]) (rest := []) X G Y (ok_c_isCell hc) cs_RX11_48 ⟨Nat.le_of_ble_eq_true rfl, Nat.le_of_ble_eq_true rfl⟩ rfl hl.1 (Nat.le_of_ble_eq_true rfl) (dck_at da_X11_told 1 rfl)) (fun H locs Y => ?_)
  refine lv_if_ne (tgt := 13) X.1 X.2.1 (dck_at da_X11_told 2 rfl) rfl (fun c => ?_) (fun c => ?_)
  · have h := gI_neg h c
    refine lv_iload_n X.1 X.2.1 (dck_at da_X11_told 7 rfl) rfl (lv_at hl 2 rfl) ?_
    by_cases c0 : a2 = (0 : Int32)
    · have h := gI_pos h c0
      refine lv_tableIn (tgt := 40) (off := 26) X.1 X.2.1 (dck_at da_X11_told 8 rfl) (by rw [c0]; decide) (by rw [c0]; decide) (by rw [c0]; rfl) rfl ?_
      refine lv_aload_n X.1 X.2.1 (dck_at da_X11_told 9 rfl) rfl (lv_at hl 0 rfl) ?_
      refine gr_getR X G Y fk_RX11_12 clC_0 rfl (dck_at da_X11_told 10 rfl) ?_
      refine gr_getR X G Y fk_RX11_59 clC_1 rfl (dck_at da_X11_told 11 rfl) ?_
      refine gr_getR X G Y fk_RX11_63 clC_2 rfl (dck_at da_X11_told 12 rfl) ?_
      refine lv_iload_n X.1 X.2.1 (dck_at da_X11_told 13 rfl) rfl (lv_at hl 1 rfl) ?_
      obtain ⟨hin, h⟩ := gI_if h
      refine gr_iald X G Y clC_3 hin (dck_at da_X11_told 14 rfl) ?_
      exact gr_iretO X Y h hr rfl hlk (dck_at da_X11_told 15 rfl)
    have h := gI_neg h c0
    by_cases c1 : a2 = (1 : Int32)
    · have h := gI_pos h c1
      refine lv_tableIn (tgt := 53) (off := 39) X.1 X.2.1 (dck_at da_X11_told 8 rfl) (by rw [c1]; decide) (by rw [c1]; decide) (by rw [c1]; rfl) rfl ?_
      refine lv_aload_n X.1 X.2.1 (dck_at da_X11_told 16 rfl) rfl (lv_at hl 0 rfl) ?_
      refine gr_getR X G Y fk_RX11_12 clC_0 rfl (dck_at da_X11_told 17 rfl) ?_
      refine gr_getR X G Y fk_RX11_59 clC_1 rfl (dck_at da_X11_told 18 rfl) ?_
      refine gr_getR X G Y fk_RX11_72 clC_2 rfl (dck_at da_X11_told 19 rfl) ?_
      refine lv_iload_n X.1 X.2.1 (dck_at da_X11_told 20 rfl) rfl (lv_at hl 1 rfl) ?_
      obtain ⟨hin, h⟩ := gI_if h
      refine gr_iald X G Y clC_4 hin (dck_at da_X11_told 21 rfl) ?_
      exact gr_iretO X Y h hr rfl hlk (dck_at da_X11_told 22 rfl)
    have h := gI_neg h c1
    by_cases c2 : a2 = (2 : Int32)
    · have h := gI_pos h c2
      refine lv_tableIn (tgt := 66) (off := 52) X.1 X.2.1 (dck_at da_X11_told 8 rfl) (by rw [c2]; decide) (by rw [c2]; decide) (by rw [c2]; rfl) rfl ?_
      refine lv_aload_n X.1 X.2.1 (dck_at da_X11_told 23 rfl) rfl (lv_at hl 0 rfl) ?_
      refine gr_getR X G Y fk_RX11_12 clC_0 rfl (dck_at da_X11_told 24 rfl) ?_
      refine gr_getR X G Y fk_RX11_59 clC_1 rfl (dck_at da_X11_told 25 rfl) ?_
      refine gr_getR X G Y fk_RX11_75 clC_2 rfl (dck_at da_X11_told 26 rfl) ?_
      refine lv_iload_n X.1 X.2.1 (dck_at da_X11_told 27 rfl) rfl (lv_at hl 1 rfl) ?_
      obtain ⟨hin, h⟩ := gI_if h
      refine gr_iald X G Y clC_5 hin (dck_at da_X11_told 28 rfl) ?_
      exact gr_iretO X Y h hr rfl hlk (dck_at da_X11_told 29 rfl)
    have h := gI_neg h c2
    refine lv_tableOut (tgt := 79) X.1 X.2.1 (dck_at da_X11_told 8 rfl) (by have t0 := lv_neT (a := 0) c0 rfl; have t1 := lv_neT (a := 1) c1 rfl; have t2 := lv_neT (a := 2) c2 rfl; omega) rfl ?_
    refine lv_aload_n X.1 X.2.1 (dck_at da_X11_told 30 rfl) rfl (lv_at hl 0 rfl) ?_
    refine lv_iconst X.1 X.2.1 (dck_at da_X11_told 31 rfl) ki_m1 ?_
    obtain ⟨r2, s2, hc, h⟩ := gB2_some h
    refine gr_backi Y (gr_runV (as := [.int (-1 : Int32)]) (rest := []) X G Y (ok_c_refuse hc) cv_RX11_55 clC_0 ⟨Nat.le_of_ble_eq_true rfl, Nat.le_of_ble_eq_true rfl⟩ rfl hl.1 (Nat.le_of_ble_eq_true rfl) (dck_at da_X11_told 32 rfl)) (fun H locs Y => ?_)
    exact gr_iretO X Y h hr rfl hlk (dck_at da_X11_told 33 rfl)
  · have h := gI_pos h c
    refine lv_aload_n X.1 X.2.1 (dck_at da_X11_told 3 rfl) rfl (lv_at hl 0 rfl) ?_
    refine lv_iconst X.1 X.2.1 (dck_at da_X11_told 4 rfl) ki_m1 ?_
    obtain ⟨r3, s3, hc, h⟩ := gB2_some h
    refine gr_backi Y (gr_runV (as := [.int (-1 : Int32)]) (rest := []) X G Y (ok_c_refuse hc) cv_RX11_55 clC_0 ⟨Nat.le_of_ble_eq_true rfl, Nat.le_of_ble_eq_true rfl⟩ rfl hl.1 (Nat.le_of_ble_eq_true rfl) (dck_at da_X11_told 5 rfl)) (fun H locs Y => ?_)
    exact gr_iretO X Y h hr rfl hlk (dck_at da_X11_told 6 rfl)
set_option maxRecDepth 100000 in
set_option maxHeartbeats 4000000 in
theorem ok_c_Law_highest {l : Launch} {D : va_G} {cy : Nat → ClassId} {ad sa : Nat → Nat} {A : Nat → Prop} {F : Nat} {a0 : Int32} {s0 : St} {ρ : Int32} {σ' : St} (h : c_Law_highest F a0 s0 = some (ρ, σ')) : gMi l shC D cy ad sa A yX4_highest cX4_highest 1 (some .int) 1 [.int a0] s0 ρ σ' := by
  refine gM_of (by decide) (Nat.le_of_ble_eq_true rfl) ?_
  intro p e s m args below meth c ls X G Y hr hlk hl
  have hl : lv_has ls 1 [(0, .int a0)] := hl
  have b20 : ∀  (s0 : St) (H : Heap) (locs : List Loc) (ls : Array Slot), c_Law_highest_J20 F  s0 = some (ρ, σ') → gY shC D cy ad A s0 s H locs → lv_has ls 1 [] → W p l e (grm 1) s m args below meth c H locs 0 0 (MQ below (va_Qi (fun (q : Int32) (_ : Unit) => q = ρ) (fun _ t => va_P D vwCl (gWl shC cy ad σ') t.heap) A) args s 0 0 A) (F0 m 20 ls []) := by
    intro s0 H locs ls h Y hl
    unfold c_Law_highest_J20 at h
    refine lv_sipush X.1 X.2.1 (dck_at da_X4_highest 11 rfl) ks_999 ?_
    refine lv_goto (tgt := 28) X.1 X.2.1 (dck_at da_X4_highest 12 rfl) rfl ?_
    exact gr_iretO X Y h hr rfl hlk (dck_at da_X4_highest 14 rfl)
  unfold c_Law_highest at h
  refine lv_iload_n X.1 X.2.1 (dck_at da_X4_highest 0 rfl) rfl (lv_at hl 0 rfl) ?_
  refine lv_bipush X.1 X.2.1 (dck_at da_X4_highest 1 rfl) kb_6 ?_
  refine lv_icmp_ne (tgt := 8) X.1 X.2.1 (dck_at da_X4_highest 2 rfl) rfl (fun c => ?_) (fun c => ?_)
  · have h := gI_neg h c
    refine lv_iload_n X.1 X.2.1 (dck_at da_X4_highest 5 rfl) rfl (lv_at hl 0 rfl) ?_
    refine lv_bipush X.1 X.2.1 (dck_at da_X4_highest 6 rfl) kb_8 ?_
    refine lv_icmp_eq (tgt := 20) X.1 X.2.1 (dck_at da_X4_highest 7 rfl) rfl (fun c => ?_) (fun c => ?_)
    · have h := gI_pos h c
      exact b20 s0 _ _ _ h Y (lv_sub hl [] rfl)
    · have h := gI_neg h c
      refine lv_iload_n X.1 X.2.1 (dck_at da_X4_highest 8 rfl) rfl (lv_at hl 0 rfl) ?_
      refine lv_bipush X.1 X.2.1 (dck_at da_X4_highest 9 rfl) kb_9 ?_
      refine lv_icmp_ne (tgt := 26) X.1 X.2.1 (dck_at da_X4_highest 10 rfl) rfl (fun c => ?_) (fun c => ?_)
      · have h := gI_neg h c
        refine lv_bipush X.1 X.2.1 (dck_at da_X4_highest 13 rfl) kb_9 ?_
        exact gr_iretO X Y h hr rfl hlk (dck_at da_X4_highest 14 rfl)
      · have h := gI_pos h c
        exact b20 s0 _ _ _ h Y (lv_sub hl [] rfl)
  · have h := gI_pos h c
    refine lv_iconst X.1 X.2.1 (dck_at da_X4_highest 3 rfl) ki_3 ?_
    exact gr_iretO X Y h hr rfl hlk (dck_at da_X4_highest 4 rfl)
set_option maxRecDepth 100000 in
set_option maxHeartbeats 4000000 in
theorem ok_c_set {l : Launch} {D : va_G} {cy : Nat → ClassId} {ad sa : Nat → Nat} {A : Nat → Prop} {F : Nat} {a1 : Int32} {a2 : Int32} {s0 : St} {ρ : Int32} {σ' : St} (h : c_set F a1 a2 s0 = some (ρ, σ')) : gMi l shC D cy ad sa A yX11_set cX11_set 4 (some .int) 3 [.ref (ad 0), .int a1, .int a2] s0 ρ σ' := by
  refine gM_of (by decide) (Nat.le_of_ble_eq_true rfl) ?_
  intro p e s m args below meth c ls X G Y hr hlk hl
  have hl : lv_has ls 4 [(0, .ref (ad 0)), (1, .int a1), (2, .int a2)] := hl
  have b22 : ∀  (s0 : St) (H : Heap) (locs : List Loc) (ls : Array Slot), c_set_J22 F  s0 = some (ρ, σ') → gY shC D cy ad A s0 s H locs → lv_has ls 4 [(0, .ref (ad 0))] → W p l e (grm 3) s m args below meth c H locs 0 0 (MQ below (va_Qi (fun (q : Int32) (_ : Unit) => q = ρ) (fun _ t => va_P D vwCl (gWl shC cy ad σ') t.heap) A) args s 0 0 A) (F0 m 22 ls []) := by
    intro s0 H locs ls h Y hl
    unfold c_set_J22 at h
    refine lv_aload_n X.1 X.2.1 (dck_at da_X11_set 11 rfl) rfl (lv_at hl 0 rfl) ?_
    refine lv_iconst X.1 X.2.1 (dck_at da_X11_set 12 rfl) ki_m1 ?_
    obtain ⟨r1, s1, hc, h⟩ := gB2_some h
    refine gr_backi Y (gr_runV (as := [.int (-1 : Int32)]) (rest := []) X G Y (ok_c_refuse hc) cv_RX11_55 clC_0 ⟨Nat.le_of_ble_eq_true rfl, Nat.le_of_ble_eq_true rfl⟩ rfl hl.1 (Nat.le_of_ble_eq_true rfl) (dck_at da_X11_set 13 rfl)) (fun H locs Y => ?_)
    exact gr_iretO X Y h hr rfl hlk (dck_at da_X11_set 14 rfl)
  unfold c_set at h
  refine lv_iload_n X.1 X.2.1 (dck_at da_X11_set 0 rfl) rfl (lv_at hl 1 rfl) ?_
  refine lv_iconst X.1 X.2.1 (dck_at da_X11_set 1 rfl) ki_0 ?_
  refine lv_bipush X.1 X.2.1 (dck_at da_X11_set 2 rfl) kb_9 ?_
  obtain ⟨r2, s2, hc, h⟩ := gB2_some h
  refine gr_backi Y (gr_runS (as := [.int a1, .int (0 : Int32), .int (9 : Int32)]) (rest := []) X G Y (ok_c_isIn hc) cs_RX11_68 ⟨Nat.le_of_ble_eq_true rfl, Nat.le_of_ble_eq_true rfl⟩ rfl hl.1 (Nat.le_of_ble_eq_true rfl) (dck_at da_X11_set 3 rfl)) (fun H locs Y => ?_)
  refine lv_if_eq (tgt := 22) X.1 X.2.1 (dck_at da_X11_set 4 rfl) rfl (fun c => ?_) (fun c => ?_)
  · have h := gI_pos h c
    exact b22 s2 _ _ _ h Y (lv_sub hl [0] rfl)
  · have h := gI_neg h c
    refine lv_iload_n X.1 X.2.1 (dck_at da_X11_set 5 rfl) rfl (lv_at hl 2 rfl) ?_
    refine lv_iconst X.1 X.2.1 (dck_at da_X11_set 6 rfl) ki_0 ?_
    refine lv_iload_n X.1 X.2.1 (dck_at da_X11_set 7 rfl) rfl (lv_at hl 1 rfl) ?_
    obtain ⟨r3, s3, hc, h⟩ := gB2_some h
    refine gr_backi Y (gr_runS (as := [.int a1]) (rest := [.int (0 : Int32), .int a2]) X G Y (ok_c_Law_highest hc) cs_RX11_80 ⟨Nat.le_of_ble_eq_true rfl, Nat.le_of_ble_eq_true rfl⟩ rfl hl.1 (Nat.le_of_ble_eq_true rfl) (dck_at da_X11_set 8 rfl)) (fun H locs Y => ?_)
    obtain ⟨r4, s4, hc, h⟩ := gB2_some h
    refine gr_backi Y (gr_runS (as := [.int a2, .int (0 : Int32), .int r3]) (rest := []) X G Y (ok_c_isIn hc) cs_RX11_68 ⟨Nat.le_of_ble_eq_true rfl, Nat.le_of_ble_eq_true rfl⟩ rfl hl.1 (Nat.le_of_ble_eq_true rfl) (dck_at da_X11_set 9 rfl)) (fun H locs Y => ?_)
    refine lv_if_ne (tgt := 28) X.1 X.2.1 (dck_at da_X11_set 10 rfl) rfl (fun c => ?_) (fun c => ?_)
    · have h := gI_neg h c
      refine lv_aload_n X.1 X.2.1 (dck_at da_X11_set 15 rfl) rfl (lv_at hl 0 rfl) ?_
      refine gr_getR X G Y fk_RX11_12 clC_0 rfl (dck_at da_X11_set 16 rfl) ?_
      refine gr_getR X G Y fk_RX11_83 clC_1 rfl (dck_at da_X11_set 17 rfl) ?_
      refine gr_getR X G Y fk_RX11_87 clC_6 rfl (dck_at da_X11_set 18 rfl) ?_
      refine lv_iload_n X.1 X.2.1 (dck_at da_X11_set 19 rfl) rfl (lv_at hl 1 rfl) ?_
      obtain ⟨hin, h⟩ := gI_if h
      refine gr_iald X G Y clC_7 hin (dck_at da_X11_set 20 rfl) ?_
      refine lv_istore_n (lv' := [(3, .int (s4.1 7 (a1).toNatClampNeg)), (0, .ref (ad 0)), (1, .int a1), (2, .int a2)]) X.1 X.2.1 (dck_at da_X11_set 21 rfl) rfl hl (by decide) rfl (fun ls hl => ?_)
      refine lv_aload_n X.1 X.2.1 (dck_at da_X11_set 22 rfl) rfl (lv_at hl 1 rfl) ?_
      refine gr_getR X G Y fk_RX11_12 clC_0 rfl (dck_at da_X11_set 23 rfl) ?_
      refine gr_getR X G Y fk_RX11_83 clC_1 rfl (dck_at da_X11_set 24 rfl) ?_
      refine gr_getR X G Y fk_RX11_87 clC_6 rfl (dck_at da_X11_set 25 rfl) ?_
      refine lv_iload_n X.1 X.2.1 (dck_at da_X11_set 26 rfl) rfl (lv_at hl 2 rfl) ?_
      refine lv_iload_n X.1 X.2.1 (dck_at da_X11_set 27 rfl) rfl (lv_at hl 3 rfl) ?_
      obtain ⟨hin, h⟩ := gI_if h
      refine gr_iast X G Y clC_7 hin (dck_at da_X11_set 28 rfl) (fun H locs Y => ?_)
      refine lv_iload_n X.1 X.2.1 (dck_at da_X11_set 29 rfl) rfl (lv_at hl 0 rfl) ?_
      exact gr_iretO X Y h hr rfl hlk (dck_at da_X11_set 30 rfl)
    · have h := gI_pos h c
      exact b22 s4 _ _ _ h Y (lv_sub hl [0] rfl)
set_option maxRecDepth 100000 in
set_option maxHeartbeats 4000000 in
theorem ok_c_sits {l : Launch} {D : va_G} {cy : Nat → ClassId} {ad sa : Nat → Nat} {A : Nat → Prop} {F : Nat} {a1 : Int32} {a2 : Int32} {s0 : St} {ρ : Int32} {σ' : St} (h : c_sits F a1 a2 s0 = some (ρ, σ')) : gMi l shC D cy ad sa A yX11_sits cX11_sits 4 (some .int) 3 [.ref (ad 0), .int a1, .int a2] s0 ρ σ' := by
  refine gM_of (by decide) (Nat.le_of_ble_eq_true rfl) ?_
  intro p e s m args below meth c ls X G Y hr hlk hl
  have hl : lv_has ls 4 [(0, .ref (ad 0)), (1, .int a1), (2, .int a2)] := hl
  have b17 : ∀  (s0 : St) (H : Heap) (locs : List Loc) (ls : Array Slot), c_sits_J17 F  s0 = some (ρ, σ') → gY shC D cy ad A s0 s H locs → lv_has ls 4 [(0, .ref (ad 0))] → W p l e (grm 3) s m args below meth c H locs 0 0 (MQ below (va_Qi (fun (q : Int32) (_ : Unit) => q = ρ) (fun _ t => va_P D vwCl (gWl shC cy ad σ') t.heap) A) args s 0 0 A) (F0 m 17 ls []) := by
    intro s0 H locs ls h Y hl
    unfold c_sits_J17 at h
    refine lv_aload_n X.1 X.2.1 (dck_at da_X11_sits 8 rfl) rfl (lv_at hl 0 rfl) ?_
    refine lv_iconst X.1 X.2.1 (dck_at da_X11_sits 9 rfl) ki_m1 ?_
    obtain ⟨r1, s1, hc, h⟩ := gB2_some h
    refine gr_backi Y (gr_runV (as := [.int (-1 : Int32)]) (rest := []) X G Y (ok_c_refuse hc) cv_RX11_55 clC_0 ⟨Nat.le_of_ble_eq_true rfl, Nat.le_of_ble_eq_true rfl⟩ rfl hl.1 (Nat.le_of_ble_eq_true rfl) (dck_at da_X11_sits 10 rfl)) (fun H locs Y => ?_)
    exact gr_iretO X Y h hr rfl hlk (dck_at da_X11_sits 11 rfl)
  unfold c_sits at h
  refine lv_iload_n X.1 X.2.1 (dck_at da_X11_sits 0 rfl) rfl (lv_at hl 1 rfl) ?_
  obtain ⟨r2, s2, hc, h⟩ := gB2_some h
  refine gr_backi Y (gr_runS (as := [.int a1]) (rest := []) X G Y (ok_c_isKind hc) cs_RX11_52 ⟨Nat.le_of_ble_eq_true rfl, Nat.le_of_ble_eq_true rfl⟩ rfl hl.1 (Nat.le_of_ble_eq_true rfl) (dck_at da_X11_sits 1 rfl)) (fun H locs Y => ?_)
  refine lv_if_eq (tgt := 17) X.1 X.2.1 (dck_at da_X11_sits 2 rfl) rfl (fun c => ?_) (fun c => ?_)
  · have h := gI_pos h c
    exact b17 s2 _ _ _ h Y (lv_sub hl [0] rfl)
  · have h := gI_neg h c
    refine lv_iload_n X.1 X.2.1 (dck_at da_X11_sits 3 rfl) rfl (lv_at hl 2 rfl) ?_
    refine lv_iconst X.1 X.2.1 (dck_at da_X11_sits 4 rfl) ki_0 ?_
    refine lv_bipush X.1 X.2.1 (dck_at da_X11_sits 5 rfl) kb_9 ?_
    obtain ⟨r3, s3, hc, h⟩ := gB2_some h
    refine gr_backi Y (gr_runS (as := [.int a2, .int (0 : Int32), .int (9 : Int32)]) (rest := []) X G Y (ok_c_isIn hc) cs_RX11_68 ⟨Nat.le_of_ble_eq_true rfl, Nat.le_of_ble_eq_true rfl⟩ rfl hl.1 (Nat.le_of_ble_eq_true rfl) (dck_at da_X11_sits 6 rfl)) (fun H locs Y => ?_)
    refine lv_if_ne (tgt := 23) X.1 X.2.1 (dck_at da_X11_sits 7 rfl) rfl (fun c => ?_) (fun c => ?_)
    · have h := gI_neg h c
      refine lv_aload_n X.1 X.2.1 (dck_at da_X11_sits 12 rfl) rfl (lv_at hl 0 rfl) ?_
      refine gr_getR X G Y fk_RX11_12 clC_0 rfl (dck_at da_X11_sits 13 rfl) ?_
      refine gr_getR X G Y fk_RX11_83 clC_1 rfl (dck_at da_X11_sits 14 rfl) ?_
      refine gr_getR X G Y fk_RX11_90 clC_6 rfl (dck_at da_X11_sits 15 rfl) ?_
      refine lv_iload_n X.1 X.2.1 (dck_at da_X11_sits 16 rfl) rfl (lv_at hl 1 rfl) ?_
      obtain ⟨hin, h⟩ := gI_if h
      refine gr_iald X G Y clC_8 hin (dck_at da_X11_sits 17 rfl) ?_
      refine lv_istore_n (lv' := [(3, .int (s3.1 8 (a1).toNatClampNeg)), (0, .ref (ad 0)), (1, .int a1), (2, .int a2)]) X.1 X.2.1 (dck_at da_X11_sits 18 rfl) rfl hl (by decide) rfl (fun ls hl => ?_)
      refine lv_aload_n X.1 X.2.1 (dck_at da_X11_sits 19 rfl) rfl (lv_at hl 1 rfl) ?_
      refine gr_getR X G Y fk_RX11_12 clC_0 rfl (dck_at da_X11_sits 20 rfl) ?_
      refine gr_getR X G Y fk_RX11_83 clC_1 rfl (dck_at da_X11_sits 21 rfl) ?_
      refine gr_getR X G Y fk_RX11_90 clC_6 rfl (dck_at da_X11_sits 22 rfl) ?_
      refine lv_iload_n X.1 X.2.1 (dck_at da_X11_sits 23 rfl) rfl (lv_at hl 2 rfl) ?_
      refine lv_iload_n X.1 X.2.1 (dck_at da_X11_sits 24 rfl) rfl (lv_at hl 3 rfl) ?_
      obtain ⟨hin, h⟩ := gI_if h
      refine gr_iast X G Y clC_8 hin (dck_at da_X11_sits 25 rfl) (fun H locs Y => ?_)
      refine lv_iload_n X.1 X.2.1 (dck_at da_X11_sits 26 rfl) rfl (lv_at hl 0 rfl) ?_
      exact gr_iretO X Y h hr rfl hlk (dck_at da_X11_sits 27 rfl)
    · have h := gI_pos h c
      exact b17 s3 _ _ _ h Y (lv_sub hl [0] rfl)
set_option maxRecDepth 100000 in
set_option maxHeartbeats 4000000 in
theorem ok_c_Tape_byteOf {l : Launch} {D : va_G} {cy : Nat → ClassId} {ad sa : Nat → Nat} {A : Nat → Prop} {F : Nat} {a0 : Int64} {a2 : Int32} {s0 : St} {ρ : Int32} {σ' : St} (h : c_Tape_byteOf F a0 a2 s0 = some (ρ, σ')) : gMi l shC D cy ad sa A yX9_byteOf cX9_byteOf 3 (some .int) 1 [.long a0, .int a2] s0 ρ σ' := by
  refine gM_of (by decide) (Nat.le_of_ble_eq_true rfl) ?_
  intro p e s m args below meth c ls X G Y hr hlk hl
  have hl : lv_has ls 3 [(0, .long a0), (2, .int a2)] := hl
  unfold c_Tape_byteOf at h
  refine lv_lload_n X.1 X.2.1 (dck_at da_X9_byteOf 0 rfl) rfl (lv_at hl 0 rfl) ?_
  refine lv_bipush X.1 X.2.1 (dck_at da_X9_byteOf 1 rfl) kb_8 ?_
  refine lv_iload_n X.1 X.2.1 (dck_at da_X9_byteOf 2 rfl) rfl (lv_at hl 1 rfl) ?_
  refine lv_imul X.1 X.2.1 (dck_at da_X9_byteOf 3 rfl) ?_
  refine lv_lushr (v := ((a0).toUInt64 >>> (((8 : Int32) * a2).toInt64.toUInt64 &&& Int64.toUInt64 63)).toInt64) X.1 X.2.1 (dck_at da_X9_byteOf 4 rfl) rfl ?_
  refine lv_l2i (v := (((a0).toUInt64 >>> (((8 : Int32) * a2).toInt64.toUInt64 &&& Int64.toUInt64 63)).toInt64).toInt32) X.1 X.2.1 (dck_at da_X9_byteOf 5 rfl) rfl ?_
  refine lv_sipush X.1 X.2.1 (dck_at da_X9_byteOf 6 rfl) ks_255 ?_
  refine lv_iand X.1 X.2.1 (dck_at da_X9_byteOf 7 rfl) ?_
  exact gr_iretO X Y h hr rfl hlk (dck_at da_X9_byteOf 8 rfl)
set_option maxRecDepth 100000 in
set_option maxHeartbeats 4000000 in
theorem ok_c_Tape_canHold {l : Launch} {D : va_G} {cy : Nat → ClassId} {ad sa : Nat → Nat} {A : Nat → Prop} {F : Nat} {a0 : Int64} {a2 : Int32} {s0 : St} {ρ : Int32} {σ' : St} (h : c_Tape_canHold F a0 a2 s0 = some (ρ, σ')) : gMi l shC D cy ad sa A yX9_canHold cX9_canHold 4 (some .boolean) 2 [.long a0, .int a2] s0 ρ σ' := by
  refine gM_of (by decide) (Nat.le_of_ble_eq_true rfl) ?_
  intro p e s m args below meth c ls X G Y hr hlk hl
  have hl : lv_has ls 4 [(0, .long a0), (2, .int a2)] := hl
  have b2 : ∀ n : Nat, ∀ (x0 : Int64) (x2 : Int32) (x3 : Int32) (s0 : St) (H : Heap) (locs : List Loc) (ls : Array Slot), c_Tape_canHold_L2 F  n x0 x2 x3 s0 = some (ρ, σ') → gY shC D cy ad A s0 s H locs → lv_has ls 4 [(0, .long x0), (2, .int x2), (3, .int x3)] → W p l e (grm 2) s m args below meth c H locs 0 0 (MQ below (va_Qi (fun (q : Int32) (_ : Unit) => q = ρ) (fun _ t => va_P D vwCl (gWl shC cy ad σ') t.heap) A) args s 0 0 A) (F0 m 2 ls []) := by
    intro n
    induction n with
    | zero => intro x0 x2 x3 s0 H locs ls h Y hl; exact (gnone h).elim
    | succ n hk2 =>
      have e : c_Tape_canHold_L2 F  (n + 1) = c_Tape_canHold_L2b F  (c_Tape_canHold_L2 F  n) := rfl
      rw [e]; clear e
      generalize c_Tape_canHold_L2 F  n = k2 at hk2 ⊢
      intro x0 x2 x3 s0 H locs ls h Y hl
      unfold c_Tape_canHold_L2b at h
      refine lv_iload_n X.1 X.2.1 (dck_at da_X9_canHold 2 rfl) rfl (lv_at hl 2 rfl) ?_
      refine lv_iload_n X.1 X.2.1 (dck_at da_X9_canHold 3 rfl) rfl (lv_at hl 1 rfl) ?_
      refine lv_icmp_ge (tgt := 30) X.1 X.2.1 (dck_at da_X9_canHold 4 rfl) rfl (fun c => ?_) (fun c => ?_)
      · have h := gI_pos h c
        refine lv_iconst X.1 X.2.1 (dck_at da_X9_canHold 16 rfl) ki_1 ?_
        exact gr_iretO X Y h hr rfl hlk (dck_at da_X9_canHold 17 rfl)
      · have h := gI_neg h c
        refine lv_lload_n X.1 X.2.1 (dck_at da_X9_canHold 5 rfl) rfl (lv_at hl 0 rfl) ?_
        refine lv_iload_n X.1 X.2.1 (dck_at da_X9_canHold 6 rfl) rfl (lv_at hl 2 rfl) ?_
        obtain ⟨r1, s1, hc, h⟩ := gB2_some h
        refine gr_backi Y (gr_runS (as := [.long x0, .int x3]) (rest := []) X G Y (ok_c_Tape_byteOf hc) cs_RX9_19 ⟨Nat.le_of_ble_eq_true rfl, Nat.le_of_ble_eq_true rfl⟩ rfl hl.1 (Nat.le_of_ble_eq_true rfl) (dck_at da_X9_canHold 7 rfl)) (fun H locs Y => ?_)
        refine lv_bipush X.1 X.2.1 (dck_at da_X9_canHold 8 rfl) kb_32 ?_
        refine lv_bipush X.1 X.2.1 (dck_at da_X9_canHold 9 rfl) kb_126 ?_
        obtain ⟨r2, s2, hc, h⟩ := gB2_some h
        refine gr_backi Y (gr_runN (as := [.int r1, .int (32 : Int32), .int (126 : Int32)]) (rest := []) X G Y (ok_c_isIn hc) cn_RX9_23 ⟨Nat.le_of_ble_eq_true rfl, Nat.le_of_ble_eq_true rfl⟩ rfl hl.1 (Nat.le_of_ble_eq_true rfl) (dck_at da_X9_canHold 10 rfl)) (fun H locs Y => ?_)
        refine lv_if_ne (tgt := 24) X.1 X.2.1 (dck_at da_X9_canHold 11 rfl) rfl (fun c => ?_) (fun c => ?_)
        · have h := gI_neg h c
          refine lv_iinc (v := x3 + (1 : Int32)) (lv' := [(3, .int (x3 + (1 : Int32))), (0, .long x0), (2, .int x2)]) X.1 X.2.1 (dck_at da_X9_canHold 14 rfl) hl (k := 2) rfl (congrArg (HAdd.hAdd _) ki_1) (by decide) rfl (fun ls hl => ?_)
          refine lv_goto (tgt := 2) X.1 X.2.1 (dck_at da_X9_canHold 15 rfl) rfl ?_
          exact hk2 x0 x2 (x3 + (1 : Int32)) s2 _ _ _ h Y (lv_sub hl [1, 2, 0] rfl)
        · have h := gI_pos h c
          refine lv_iconst X.1 X.2.1 (dck_at da_X9_canHold 12 rfl) ki_0 ?_
          exact gr_iretO X Y h hr rfl hlk (dck_at da_X9_canHold 13 rfl)
  unfold c_Tape_canHold at h
  refine lv_iconst X.1 X.2.1 (dck_at da_X9_canHold 0 rfl) ki_0 ?_
  refine lv_istore_n (lv' := [(3, .int (0 : Int32)), (0, .long a0), (2, .int a2)]) X.1 X.2.1 (dck_at da_X9_canHold 1 rfl) rfl hl (by decide) rfl (fun ls hl => ?_)
  exact b2 F a0 a2 (0 : Int32) s0 _ _ _ h Y (lv_sub hl [1, 2, 0] rfl)
set_option maxRecDepth 100000 in
set_option maxHeartbeats 4000000 in
theorem ok_c_Tape_room {l : Launch} {D : va_G} {cy : Nat → ClassId} {ad sa : Nat → Nat} {A : Nat → Prop} {F : Nat}  {s0 : St} {ρ : Int32} {σ' : St} (h : c_Tape_room F s0 = some (ρ, σ')) : gMi l shC D cy ad sa A yX9_room cX9_room 1 (some .int) 1 [.ref (ad 74)] s0 ρ σ' := by
  refine gM_of (by decide) (Nat.le_of_ble_eq_true rfl) ?_
  intro p e s m args below meth c ls X G Y hr hlk hl
  have hl : lv_has ls 1 [(0, .ref (ad 74))] := hl
  unfold c_Tape_room at h
  refine lv_sipush X.1 X.2.1 (dck_at da_X9_room 0 rfl) ks_160 ?_
  refine lv_aload_n X.1 X.2.1 (dck_at da_X9_room 1 rfl) rfl (lv_at hl 0 rfl) ?_
  refine gr_getI X G Y fk_RX9_15 clC_74 rfl (dck_at da_X9_room 2 rfl) ?_
  refine lv_isub X.1 X.2.1 (dck_at da_X9_room 3 rfl) ?_
  exact gr_iretO X Y h hr rfl hlk (dck_at da_X9_room 4 rfl)
set_option maxRecDepth 100000 in
set_option maxHeartbeats 4000000 in
theorem ok_c_Tape_append {l : Launch} {D : va_G} {cy : Nat → ClassId} {ad sa : Nat → Nat} {A : Nat → Prop} {F : Nat} {a1 : Int64} {a3 : Int32} {s0 : St} {ρ : Int32} {σ' : St} (h : c_Tape_append F a1 a3 s0 = some (ρ, σ')) : gMi l shC D cy ad sa A yX9_append cX9_append 5 (some .int) 2 [.ref (ad 74), .long a1, .int a3] s0 ρ σ' := by
  refine gM_of (by decide) (Nat.le_of_ble_eq_true rfl) ?_
  intro p e s m args below meth c ls X G Y hr hlk hl
  have hl : lv_has ls 5 [(0, .ref (ad 74)), (1, .long a1), (3, .int a3)] := hl
  have b49 : ∀  (s0 : St) (H : Heap) (locs : List Loc) (ls : Array Slot), c_Tape_append_J49 F  s0 = some (ρ, σ') → gY shC D cy ad A s0 s H locs → lv_has ls 5 [(0, .ref (ad 74))] → W p l e (grm 2) s m args below meth c H locs 0 0 (MQ below (va_Qi (fun (q : Int32) (_ : Unit) => q = ρ) (fun _ t => va_P D vwCl (gWl shC cy ad σ') t.heap) A) args s 0 0 A) (F0 m 49 ls []) := by
    intro s0 H locs ls h Y hl
    unfold c_Tape_append_J49 at h
    refine lv_aload_n X.1 X.2.1 (dck_at da_X9_append 26 rfl) rfl (lv_at hl 0 rfl) ?_
    refine gr_getI X G Y fk_RX9_15 clC_74 rfl (dck_at da_X9_append 27 rfl) ?_
    exact gr_iretO X Y h hr rfl hlk (dck_at da_X9_append 28 rfl)
  have b5 : ∀ n : Nat, ∀ (x1 : Int64) (x4 : Int32) (s0 : St) (H : Heap) (locs : List Loc) (ls : Array Slot), c_Tape_append_L5 F  n x1 x4 s0 = some (ρ, σ') → gY shC D cy ad A s0 s H locs → lv_has ls 5 [(0, .ref (ad 74)), (1, .long x1), (4, .int x4)] → W p l e (grm 2) s m args below meth c H locs 0 0 (MQ below (va_Qi (fun (q : Int32) (_ : Unit) => q = ρ) (fun _ t => va_P D vwCl (gWl shC cy ad σ') t.heap) A) args s 0 0 A) (F0 m 5 ls []) := by
    intro n
    induction n with
    | zero => intro x1 x4 s0 H locs ls h Y hl; exact (gnone h).elim
    | succ n hk5 =>
      have e : c_Tape_append_L5 F  (n + 1) = c_Tape_append_L5b F  (c_Tape_append_L5 F  n) := rfl
      rw [e]; clear e
      generalize c_Tape_append_L5 F  n = k5 at hk5 ⊢
      intro x1 x4 s0 H locs ls h Y hl
      unfold c_Tape_append_L5b at h
      refine lv_iload X.1 X.2.1 (dck_at da_X9_append 4 rfl) (lv_at hl 2 rfl) ?_
      refine lv_if_lt (tgt := 49) X.1 X.2.1 (dck_at da_X9_append 5 rfl) rfl (fun c => ?_) (fun c => ?_)
      · have h := gI_pos h c
        exact b49 s0 _ _ _ h Y (lv_sub hl [0] rfl)
      · have h := gI_neg h c
        refine lv_aload_n X.1 X.2.1 (dck_at da_X9_append 6 rfl) rfl (lv_at hl 0 rfl) ?_
        refine gr_getI X G Y fk_RX9_15 clC_74 rfl (dck_at da_X9_append 7 rfl) ?_
        refine lv_sipush X.1 X.2.1 (dck_at da_X9_append 8 rfl) ks_160 ?_
        refine lv_icmp_ge (tgt := 49) X.1 X.2.1 (dck_at da_X9_append 9 rfl) rfl (fun c => ?_) (fun c => ?_)
        · have h := gI_pos h c
          exact b49 s0 _ _ _ h Y (lv_sub hl [0] rfl)
        · have h := gI_neg h c
          refine lv_aload_n X.1 X.2.1 (dck_at da_X9_append 10 rfl) rfl (lv_at hl 0 rfl) ?_
          refine gr_getR X G Y fk_RX9_11 clC_74 rfl (dck_at da_X9_append 11 rfl) ?_
          refine lv_aload_n X.1 X.2.1 (dck_at da_X9_append 12 rfl) rfl (lv_at hl 0 rfl) ?_
          refine lv_dup X.1 X.2.1 (dck_at da_X9_append 13 rfl) rfl ?_
          refine gr_getI X G Y fk_RX9_15 clC_74 rfl (dck_at da_X9_append 14 rfl) ?_
          refine lv_dup_x1 X.1 X.2.1 (dck_at da_X9_append 15 rfl) rfl rfl ?_
          refine lv_iconst X.1 X.2.1 (dck_at da_X9_append 16 rfl) ki_1 ?_
          refine lv_iadd X.1 X.2.1 (dck_at da_X9_append 17 rfl) ?_
          refine gr_putI X G Y fp_RX9_15 clC_74 rfl (dck_at da_X9_append 18 rfl) (fun H locs Y => ?_)
          refine lv_lload_n X.1 X.2.1 (dck_at da_X9_append 19 rfl) rfl (lv_at hl 1 rfl) ?_
          refine lv_iload X.1 X.2.1 (dck_at da_X9_append 20 rfl) (lv_at hl 2 rfl) ?_
          obtain ⟨r1, s1, hc, h⟩ := gB2_some h
          refine gr_backi Y (gr_runS (as := [.long x1, .int x4]) (rest := [.int (s0.1 74 1), .ref (ad 75)]) X G Y (ok_c_Tape_byteOf hc) cs_RX9_19 ⟨Nat.le_of_ble_eq_true rfl, Nat.le_of_ble_eq_true rfl⟩ rfl hl.1 (Nat.le_of_ble_eq_true rfl) (dck_at da_X9_append 21 rfl)) (fun H locs Y => ?_)
          refine lv_i2c (v := ((r1).toUInt32 % 65536).toInt32) X.1 X.2.1 (dck_at da_X9_append 22 rfl) rfl ?_
          obtain ⟨hin, h⟩ := gI_if h
          refine gr_cast X G Y clC_75 hin (dck_at da_X9_append 23 rfl) (fun H locs Y => ?_)
          refine lv_iinc (v := x4 + (-1 : Int32)) (lv' := [(4, .int (x4 + (-1 : Int32))), (0, .ref (ad 74)), (1, .long x1)]) X.1 X.2.1 (dck_at da_X9_append 24 rfl) hl (k := 2) rfl (congrArg (HAdd.hAdd _) ki_m1) (by decide) rfl (fun ls hl => ?_)
          refine lv_goto (tgt := 5) X.1 X.2.1 (dck_at da_X9_append 25 rfl) rfl ?_
          exact hk5 x1 (x4 + (-1 : Int32)) (sI s1 75 (s0.1 74 1).toNatClampNeg (vp_nar .char (((r1).toUInt32 % 65536).toInt32))) _ _ _ h Y (lv_sub hl [1, 2, 0] rfl)
  unfold c_Tape_append at h
  refine lv_iload_n X.1 X.2.1 (dck_at da_X9_append 0 rfl) rfl (lv_at hl 2 rfl) ?_
  refine lv_iconst X.1 X.2.1 (dck_at da_X9_append 1 rfl) ki_1 ?_
  refine lv_isub X.1 X.2.1 (dck_at da_X9_append 2 rfl) ?_
  refine lv_istore (lv' := [(4, .int (a3 - (1 : Int32))), (0, .ref (ad 74)), (1, .long a1), (3, .int a3)]) X.1 X.2.1 (dck_at da_X9_append 3 rfl) hl (by decide) rfl (fun ls hl => ?_)
  exact b5 F a1 (a3 - (1 : Int32)) s0 _ _ _ h Y (lv_sub hl [1, 2, 0] rfl)
set_option maxRecDepth 100000 in
set_option maxHeartbeats 4000000 in
theorem ok_c_type {l : Launch} {D : va_G} {cy : Nat → ClassId} {ad sa : Nat → Nat} {A : Nat → Prop} {F : Nat} {a1 : Int64} {a3 : Int32} {s0 : St} {ρ : Int32} {σ' : St} (h : c_type F a1 a3 s0 = some (ρ, σ')) : gMi l shC D cy ad sa A yX11_type cX11_type 4 (some .int) 3 [.ref (ad 0), .long a1, .int a3] s0 ρ σ' := by
  refine gM_of (by decide) (Nat.le_of_ble_eq_true rfl) ?_
  intro p e s m args below meth c ls X G Y hr hlk hl
  have hl : lv_has ls 4 [(0, .ref (ad 0)), (1, .long a1), (3, .int a3)] := hl
  have b18 : ∀  (s0 : St) (H : Heap) (locs : List Loc) (ls : Array Slot), c_type_J18 F  s0 = some (ρ, σ') → gY shC D cy ad A s0 s H locs → lv_has ls 4 [(0, .ref (ad 0))] → W p l e (grm 3) s m args below meth c H locs 0 0 (MQ below (va_Qi (fun (q : Int32) (_ : Unit) => q = ρ) (fun _ t => va_P D vwCl (gWl shC cy ad σ') t.heap) A) args s 0 0 A) (F0 m 18 ls []) := by
    intro s0 H locs ls h Y hl
    unfold c_type_J18 at h
    refine lv_aload_n X.1 X.2.1 (dck_at da_X11_type 9 rfl) rfl (lv_at hl 0 rfl) ?_
    refine lv_iconst X.1 X.2.1 (dck_at da_X11_type 10 rfl) ki_m1 ?_
    obtain ⟨r1, s1, hc, h⟩ := gB2_some h
    refine gr_backi Y (gr_runV (as := [.int (-1 : Int32)]) (rest := []) X G Y (ok_c_refuse hc) cv_RX11_55 clC_0 ⟨Nat.le_of_ble_eq_true rfl, Nat.le_of_ble_eq_true rfl⟩ rfl hl.1 (Nat.le_of_ble_eq_true rfl) (dck_at da_X11_type 11 rfl)) (fun H locs Y => ?_)
    exact gr_iretO X Y h hr rfl hlk (dck_at da_X11_type 12 rfl)
  unfold c_type at h
  refine lv_iload_n X.1 X.2.1 (dck_at da_X11_type 0 rfl) rfl (lv_at hl 2 rfl) ?_
  refine lv_iconst X.1 X.2.1 (dck_at da_X11_type 1 rfl) ki_1 ?_
  refine lv_bipush X.1 X.2.1 (dck_at da_X11_type 2 rfl) kb_8 ?_
  obtain ⟨r2, s2, hc, h⟩ := gB2_some h
  refine gr_backi Y (gr_runS (as := [.int a3, .int (1 : Int32), .int (8 : Int32)]) (rest := []) X G Y (ok_c_isIn hc) cs_RX11_68 ⟨Nat.le_of_ble_eq_true rfl, Nat.le_of_ble_eq_true rfl⟩ rfl hl.1 (Nat.le_of_ble_eq_true rfl) (dck_at da_X11_type 3 rfl)) (fun H locs Y => ?_)
  refine lv_if_eq (tgt := 18) X.1 X.2.1 (dck_at da_X11_type 4 rfl) rfl (fun c => ?_) (fun c => ?_)
  · have h := gI_pos h c
    exact b18 s2 _ _ _ h Y (lv_sub hl [0] rfl)
  · have h := gI_neg h c
    refine lv_lload_n X.1 X.2.1 (dck_at da_X11_type 5 rfl) rfl (lv_at hl 1 rfl) ?_
    refine lv_iload_n X.1 X.2.1 (dck_at da_X11_type 6 rfl) rfl (lv_at hl 2 rfl) ?_
    obtain ⟨r3, s3, hc, h⟩ := gB2_some h
    refine gr_backi Y (gr_runS (as := [.long a1, .int a3]) (rest := []) X G Y (ok_c_Tape_canHold hc) cs_RX11_93 ⟨Nat.le_of_ble_eq_true rfl, Nat.le_of_ble_eq_true rfl⟩ rfl hl.1 (Nat.le_of_ble_eq_true rfl) (dck_at da_X11_type 7 rfl)) (fun H locs Y => ?_)
    refine lv_if_ne (tgt := 24) X.1 X.2.1 (dck_at da_X11_type 8 rfl) rfl (fun c => ?_) (fun c => ?_)
    · have h := gI_neg h c
      refine lv_iload_n X.1 X.2.1 (dck_at da_X11_type 13 rfl) rfl (lv_at hl 2 rfl) ?_
      refine lv_aload_n X.1 X.2.1 (dck_at da_X11_type 14 rfl) rfl (lv_at hl 0 rfl) ?_
      refine gr_getR X G Y fk_RX11_29 clC_0 rfl (dck_at da_X11_type 15 rfl) ?_
      obtain ⟨r4, s4, hc, h⟩ := gB2_some h
      refine gr_backi Y (gr_runV (as := []) (rest := [.int a3]) X G Y (ok_c_Tape_room hc) cv_RX11_97 clC_74 ⟨Nat.le_of_ble_eq_true rfl, Nat.le_of_ble_eq_true rfl⟩ rfl hl.1 (Nat.le_of_ble_eq_true rfl) (dck_at da_X11_type 16 rfl)) (fun H locs Y => ?_)
      refine lv_icmp_le (tgt := 42) X.1 X.2.1 (dck_at da_X11_type 17 rfl) rfl (fun c => ?_) (fun c => ?_)
      · have h := gI_pos h c
        refine lv_aload_n X.1 X.2.1 (dck_at da_X11_type 22 rfl) rfl (lv_at hl 0 rfl) ?_
        refine gr_getR X G Y fk_RX11_29 clC_0 rfl (dck_at da_X11_type 23 rfl) ?_
        refine lv_lload_n X.1 X.2.1 (dck_at da_X11_type 24 rfl) rfl (lv_at hl 1 rfl) ?_
        refine lv_iload_n X.1 X.2.1 (dck_at da_X11_type 25 rfl) rfl (lv_at hl 2 rfl) ?_
        obtain ⟨r5, s5, hc, h⟩ := gB2_some h
        refine gr_backi Y (gr_runV (as := [.long a1, .int a3]) (rest := []) X G Y (ok_c_Tape_append hc) cv_RX11_101 clC_74 ⟨Nat.le_of_ble_eq_true rfl, Nat.le_of_ble_eq_true rfl⟩ rfl hl.1 (Nat.le_of_ble_eq_true rfl) (dck_at da_X11_type 26 rfl)) (fun H locs Y => ?_)
        exact gr_iretO X Y h hr rfl hlk (dck_at da_X11_type 27 rfl)
      · have h := gI_neg h c
        refine lv_aload_n X.1 X.2.1 (dck_at da_X11_type 18 rfl) rfl (lv_at hl 0 rfl) ?_
        refine lv_bipush X.1 X.2.1 (dck_at da_X11_type 19 rfl) kb_m3 ?_
        obtain ⟨r6, s6, hc, h⟩ := gB2_some h
        refine gr_backi Y (gr_runV (as := [.int (-3 : Int32)]) (rest := []) X G Y (ok_c_refuse hc) cv_RX11_55 clC_0 ⟨Nat.le_of_ble_eq_true rfl, Nat.le_of_ble_eq_true rfl⟩ rfl hl.1 (Nat.le_of_ble_eq_true rfl) (dck_at da_X11_type 20 rfl)) (fun H locs Y => ?_)
        exact gr_iretO X Y h hr rfl hlk (dck_at da_X11_type 21 rfl)
    · have h := gI_pos h c
      exact b18 s3 _ _ _ h Y (lv_sub hl [0] rfl)
set_option maxRecDepth 100000 in
set_option maxHeartbeats 4000000 in
theorem ok_c_Tape_digitAt {l : Launch} {D : va_G} {cy : Nat → ClassId} {ad sa : Nat → Nat} {A : Nat → Prop} {F : Nat} {a1 : Int32} {s0 : St} {ρ : Int32} {σ' : St} (h : c_Tape_digitAt F a1 s0 = some (ρ, σ')) : gMi l shC D cy ad sa A yX9_digitAt cX9_digitAt 2 (some .int) 1 [.ref (ad 74), .int a1] s0 ρ σ' := by
  refine gM_of (by decide) (Nat.le_of_ble_eq_true rfl) ?_
  intro p e s m args below meth c ls X G Y hr hlk hl
  have hl : lv_has ls 2 [(0, .ref (ad 74)), (1, .int a1)] := hl
  have b34 : ∀  (s0 : St) (H : Heap) (locs : List Loc) (ls : Array Slot), c_Tape_digitAt_J34 F  s0 = some (ρ, σ') → gY shC D cy ad A s0 s H locs → lv_has ls 2 [] → W p l e (grm 1) s m args below meth c H locs 0 0 (MQ below (va_Qi (fun (q : Int32) (_ : Unit) => q = ρ) (fun _ t => va_P D vwCl (gWl shC cy ad σ') t.heap) A) args s 0 0 A) (F0 m 34 ls []) := by
    intro s0 H locs ls h Y hl
    unfold c_Tape_digitAt_J34 at h
    refine lv_iconst X.1 X.2.1 (dck_at da_X9_digitAt 19 rfl) ki_m1 ?_
    exact gr_iretO X Y h hr rfl hlk (dck_at da_X9_digitAt 20 rfl)
  unfold c_Tape_digitAt at h
  refine lv_aload_n X.1 X.2.1 (dck_at da_X9_digitAt 0 rfl) rfl (lv_at hl 0 rfl) ?_
  refine gr_getR X G Y fk_RX9_11 clC_74 rfl (dck_at da_X9_digitAt 1 rfl) ?_
  refine lv_iload_n X.1 X.2.1 (dck_at da_X9_digitAt 2 rfl) rfl (lv_at hl 1 rfl) ?_
  obtain ⟨hin, h⟩ := gI_if h
  refine gr_cald X G Y clC_75 hin (dck_at da_X9_digitAt 3 rfl) ?_
  refine lv_bipush X.1 X.2.1 (dck_at da_X9_digitAt 4 rfl) kb_48 ?_
  refine lv_icmp_lt (tgt := 34) X.1 X.2.1 (dck_at da_X9_digitAt 5 rfl) rfl (fun c => ?_) (fun c => ?_)
  · have h := gI_pos h c
    exact b34 s0 _ _ _ h Y (lv_sub hl [] rfl)
  · have h := gI_neg h c
    refine lv_aload_n X.1 X.2.1 (dck_at da_X9_digitAt 6 rfl) rfl (lv_at hl 0 rfl) ?_
    refine gr_getR X G Y fk_RX9_11 clC_74 rfl (dck_at da_X9_digitAt 7 rfl) ?_
    refine lv_iload_n X.1 X.2.1 (dck_at da_X9_digitAt 8 rfl) rfl (lv_at hl 1 rfl) ?_
    obtain ⟨hin, h⟩ := gI_if h
    refine gr_cald X G Y clC_75 hin (dck_at da_X9_digitAt 9 rfl) ?_
    refine lv_bipush X.1 X.2.1 (dck_at da_X9_digitAt 10 rfl) kb_57 ?_
    refine lv_icmp_gt (tgt := 34) X.1 X.2.1 (dck_at da_X9_digitAt 11 rfl) rfl (fun c => ?_) (fun c => ?_)
    · have h := gI_pos h c
      exact b34 s0 _ _ _ h Y (lv_sub hl [] rfl)
    · have h := gI_neg h c
      refine lv_aload_n X.1 X.2.1 (dck_at da_X9_digitAt 12 rfl) rfl (lv_at hl 0 rfl) ?_
      refine gr_getR X G Y fk_RX9_11 clC_74 rfl (dck_at da_X9_digitAt 13 rfl) ?_
      refine lv_iload_n X.1 X.2.1 (dck_at da_X9_digitAt 14 rfl) rfl (lv_at hl 1 rfl) ?_
      obtain ⟨hin, h⟩ := gI_if h
      refine gr_cald X G Y clC_75 hin (dck_at da_X9_digitAt 15 rfl) ?_
      refine lv_bipush X.1 X.2.1 (dck_at da_X9_digitAt 16 rfl) kb_48 ?_
      refine lv_isub X.1 X.2.1 (dck_at da_X9_digitAt 17 rfl) ?_
      refine lv_goto (tgt := 35) X.1 X.2.1 (dck_at da_X9_digitAt 18 rfl) rfl ?_
      exact gr_iretO X Y h hr rfl hlk (dck_at da_X9_digitAt 20 rfl)
set_option maxRecDepth 100000 in
set_option maxHeartbeats 4000000 in
theorem ok_c_String_isLatin1 {l : Launch} {D : va_G} {cy : Nat → ClassId} {ad sa : Nat → Nat} {A : Nat → Prop} {F : Nat}  {s0 : St} {ρ : Int32} {σ' : St} (h : c_String_isLatin1 F s0 = some (ρ, σ')) : gMi l shC D cy ad sa A yJ0_isLatin1_aae02 cJ0_isLatin1_aae02 1 (some .boolean) 1 [.ref (sa 2)] s0 ρ σ' := by
  refine gM_of (by decide) (Nat.le_of_ble_eq_true rfl) ?_
  intro p e s m args below meth c ls X G Y hr hlk hl
  have hl : lv_has ls 1 [(0, .ref (sa 2))] := hl
  have b17 : ∀  (s0 : St) (H : Heap) (locs : List Loc) (ls : Array Slot), c_String_isLatin1_J17 F  s0 = some (ρ, σ') → gY shC D cy ad A s0 s H locs → lv_has ls 1 [] → W p l e (grm 1) s m args below meth c H locs 0 0 (MQ below (va_Qi (fun (q : Int32) (_ : Unit) => q = ρ) (fun _ t => va_P D vwCl (gWl shC cy ad σ') t.heap) A) args s 0 0 A) (F0 m 17 ls []) := by
    intro s0 H locs ls h Y hl
    unfold c_String_isLatin1_J17 at h
    refine lv_iconst X.1 X.2.1 (dck_at da_J0_isLatin1_aae02 7 rfl) ki_0 ?_
    exact gr_iretO X Y h hr rfl hlk (dck_at da_J0_isLatin1_aae02 8 rfl)
  unfold c_String_isLatin1 at h
  refine gr_getSC X G Y wm_465 (dck_at da_J0_isLatin1_aae02 0 rfl) ?_
  refine lv_if_eq (tgt := 17) X.1 X.2.1 (dck_at da_J0_isLatin1_aae02 1 rfl) rfl (fun c => ?_) (fun c => ?_)
  · have h := gI_pos h c
    exact b17 s0 _ _ _ h Y (lv_sub hl [] rfl)
  · have h := gI_neg h c
    refine lv_aload_n X.1 X.2.1 (dck_at da_J0_isLatin1_aae02 2 rfl) rfl (lv_at hl 0 rfl) ?_
    refine gr_getK2 X G Y wm_1631 (dck_at da_J0_isLatin1_aae02 3 rfl) ?_
    refine lv_if_ne (tgt := 17) X.1 X.2.1 (dck_at da_J0_isLatin1_aae02 4 rfl) rfl (fun c => ?_) (fun c => ?_)
    · have h := gI_neg h c
      exact b17 s0 _ _ _ h Y (lv_sub hl [] rfl)
    · have h := gI_pos h c
      refine lv_iconst X.1 X.2.1 (dck_at da_J0_isLatin1_aae02 5 rfl) ki_1 ?_
      refine lv_goto (tgt := 18) X.1 X.2.1 (dck_at da_J0_isLatin1_aae02 6 rfl) rfl ?_
      exact gr_iretO X Y h hr rfl hlk (dck_at da_J0_isLatin1_aae02 8 rfl)
set_option maxRecDepth 100000 in
set_option maxHeartbeats 4000000 in
theorem ok_c_String_coder {l : Launch} {D : va_G} {cy : Nat → ClassId} {ad sa : Nat → Nat} {A : Nat → Prop} {F : Nat}  {s0 : St} {ρ : Int32} {σ' : St} (h : c_String_coder F s0 = some (ρ, σ')) : gMi l shC D cy ad sa A yJ0_coder_7d493 cJ0_coder_7d493 1 (some .byte) 1 [.ref (sa 2)] s0 ρ σ' := by
  refine gM_of (by decide) (Nat.le_of_ble_eq_true rfl) ?_
  intro p e s m args below meth c ls X G Y hr hlk hl
  have hl : lv_has ls 1 [(0, .ref (sa 2))] := hl
  unfold c_String_coder at h
  refine gr_getSC X G Y wm_465 (dck_at da_J0_coder_7d493 0 rfl) ?_
  refine lv_if_eq (tgt := 13) X.1 X.2.1 (dck_at da_J0_coder_7d493 1 rfl) rfl (fun c => ?_) (fun c => ?_)
  · have h := gI_pos h c
    refine lv_iconst X.1 X.2.1 (dck_at da_J0_coder_7d493 5 rfl) ki_1 ?_
    exact (gnone h).elim
  · have h := gI_neg h c
    refine lv_aload_n X.1 X.2.1 (dck_at da_J0_coder_7d493 2 rfl) rfl (lv_at hl 0 rfl) ?_
    refine gr_getK2 X G Y wm_1631 (dck_at da_J0_coder_7d493 3 rfl) ?_
    refine lv_goto (tgt := 14) X.1 X.2.1 (dck_at da_J0_coder_7d493 4 rfl) rfl ?_
    exact gr_iretO X Y h hr rfl hlk (dck_at da_J0_coder_7d493 6 rfl)
set_option maxRecDepth 100000 in
set_option maxHeartbeats 4000000 in
theorem ok_c_String_length {l : Launch} {D : va_G} {cy : Nat → ClassId} {ad sa : Nat → Nat} {A : Nat → Prop} {F : Nat}  {s0 : St} {ρ : Int32} {σ' : St} (h : c_String_length F s0 = some (ρ, σ')) : gMi l shC D cy ad sa A yJ0_length_8abf5 cJ0_length_8abf5 1 (some .int) 2 [.ref (sa 2)] s0 ρ σ' := by
  refine gM_of (by decide) (Nat.le_of_ble_eq_true rfl) ?_
  intro p e s m args below meth c ls X G Y hr hlk hl
  have hl : lv_has ls 1 [(0, .ref (sa 2))] := hl
  unfold c_String_length at h
  refine lv_aload_n X.1 X.2.1 (dck_at da_J0_length_8abf5 0 rfl) rfl (lv_at hl 0 rfl) ?_
  refine gr_getV2 X G Y wm_1632 (dck_at da_J0_length_8abf5 1 rfl) ?_
  refine gr_tlen4 X G Y (dck_at da_J0_length_8abf5 2 rfl) ?_
  refine lv_aload_n X.1 X.2.1 (dck_at da_J0_length_8abf5 3 rfl) rfl (lv_at hl 0 rfl) ?_
  obtain ⟨r1, s1, hc, h⟩ := gB2_some h
  refine gr_backi Y (gr_runW2 (as := []) (rest := [.int (8 : Int32)]) X G Y (ok_c_String_coder hc) cv_RJ0_335 ⟨Nat.le_of_ble_eq_true rfl, Nat.le_of_ble_eq_true rfl⟩ rfl hl.1 (Nat.le_of_ble_eq_true rfl) (dck_at da_J0_length_8abf5 4 rfl)) (fun H locs Y => ?_)
  refine lv_ishr X.1 X.2.1 (dck_at da_J0_length_8abf5 5 rfl) ?_
  exact gr_iretO X Y h hr rfl hlk (dck_at da_J0_length_8abf5 6 rfl)
set_option maxRecDepth 100000 in
set_option maxHeartbeats 4000000 in
theorem ok_c_StringUTF16_getChar {l : Launch} {D : va_G} {cy : Nat → ClassId} {ad sa : Nat → Nat} {A : Nat → Prop} {F : Nat} {a1 : Int32} {s0 : St} {ρ : Int32} {σ' : St} (h : c_StringUTF16_getChar F a1 s0 = some (ρ, σ')) : gMi l shC D cy ad sa A yJ2_getChar_3b067 cJ2_getChar_3b067 2 (some .char) 1 [.ref (sa 4), .int a1] s0 ρ σ' := by
  refine gM_of (by decide) (Nat.le_of_ble_eq_true rfl) ?_
  intro p e s m args below meth c ls X G Y hr hlk hl
  have hl : lv_has ls 2 [(0, .ref (sa 4)), (1, .int a1)] := hl
  unfold c_StringUTF16_getChar at h
  exact (gnone h).elim
set_option maxRecDepth 100000 in
set_option maxHeartbeats 4000000 in
theorem ok_c_Character_isValidCodePoint {l : Launch} {D : va_G} {cy : Nat → ClassId} {ad sa : Nat → Nat} {A : Nat → Prop} {F : Nat} {a0 : Int32} {s0 : St} {ρ : Int32} {σ' : St} (h : c_Character_isValidCodePoint F a0 s0 = some (ρ, σ')) : gMi l shC D cy ad sa A yJ11_isValidCodePoint_9a6ad cJ11_isValidCodePoint_9a6ad 2 (some .boolean) 1 [.int a0] s0 ρ σ' := by
  refine gM_of (by decide) (Nat.le_of_ble_eq_true rfl) ?_
  intro p e s m args below meth c ls X G Y hr hlk hl
  have hl : lv_has ls 2 [(0, .int a0)] := hl
  unfold c_Character_isValidCodePoint at h
  refine lv_iload_n X.1 X.2.1 (dck_at da_J11_isValidCodePoint_9a6ad 0 rfl) rfl (lv_at hl 0 rfl) ?_
  refine lv_bipush X.1 X.2.1 (dck_at da_J11_isValidCodePoint_9a6ad 1 rfl) kb_16 ?_
  refine lv_iushr (v := ((a0).toUInt32 >>> (((16 : Int32)).toUInt32 &&& Int32.toUInt32 31)).toInt32) X.1 X.2.1 (dck_at da_J11_isValidCodePoint_9a6ad 2 rfl) rfl ?_
  refine lv_istore_n (lv' := [(1, .int (((a0).toUInt32 >>> (((16 : Int32)).toUInt32 &&& Int32.toUInt32 31)).toInt32)), (0, .int a0)]) X.1 X.2.1 (dck_at da_J11_isValidCodePoint_9a6ad 3 rfl) rfl hl (by decide) rfl (fun ls hl => ?_)
  refine lv_iload_n X.1 X.2.1 (dck_at da_J11_isValidCodePoint_9a6ad 4 rfl) rfl (lv_at hl 0 rfl) ?_
  refine lv_bipush X.1 X.2.1 (dck_at da_J11_isValidCodePoint_9a6ad 5 rfl) kb_17 ?_
  refine lv_icmp_ge (tgt := 15) X.1 X.2.1 (dck_at da_J11_isValidCodePoint_9a6ad 6 rfl) rfl (fun c => ?_) (fun c => ?_)
  · have h := gI_pos h c
    refine lv_iconst X.1 X.2.1 (dck_at da_J11_isValidCodePoint_9a6ad 9 rfl) ki_0 ?_
    exact gr_iretO X Y h hr rfl hlk (dck_at da_J11_isValidCodePoint_9a6ad 10 rfl)
  · have h := gI_neg h c
    refine lv_iconst X.1 X.2.1 (dck_at da_J11_isValidCodePoint_9a6ad 7 rfl) ki_1 ?_
    refine lv_goto (tgt := 16) X.1 X.2.1 (dck_at da_J11_isValidCodePoint_9a6ad 8 rfl) rfl ?_
    exact gr_iretO X Y h hr rfl hlk (dck_at da_J11_isValidCodePoint_9a6ad 10 rfl)
set_option maxRecDepth 100000 in
set_option maxHeartbeats 4000000 in
theorem ok_c_Character_highSurrogate {l : Launch} {D : va_G} {cy : Nat → ClassId} {ad sa : Nat → Nat} {A : Nat → Prop} {F : Nat} {a0 : Int32} {s0 : St} {ρ : Int32} {σ' : St} (h : c_Character_highSurrogate F a0 s0 = some (ρ, σ')) : gMi l shC D cy ad sa A yJ11_highSurrogate_5068e cJ11_highSurrogate_5068e 1 (some .char) 1 [.int a0] s0 ρ σ' := by
  refine gM_of (by decide) (Nat.le_of_ble_eq_true rfl) ?_
  intro p e s m args below meth c ls X G Y hr hlk hl
  have hl : lv_has ls 1 [(0, .int a0)] := hl
  unfold c_Character_highSurrogate at h
  refine lv_iload_n X.1 X.2.1 (dck_at da_J11_highSurrogate_5068e 0 rfl) rfl (lv_at hl 0 rfl) ?_
  refine lv_bipush X.1 X.2.1 (dck_at da_J11_highSurrogate_5068e 1 rfl) kb_10 ?_
  refine lv_iushr (v := ((a0).toUInt32 >>> (((10 : Int32)).toUInt32 &&& Int32.toUInt32 31)).toInt32) X.1 X.2.1 (dck_at da_J11_highSurrogate_5068e 2 rfl) rfl ?_
  refine lv_ldc X.1 X.2.1 X.2.2.2.1 (X.2.2.2.2 _ wm_534) (dck_at da_J11_highSurrogate_5068e 3 rfl) ?_
  refine lv_iadd X.1 X.2.1 (dck_at da_J11_highSurrogate_5068e 4 rfl) ?_
  refine lv_i2c (v := (((((a0).toUInt32 >>> (((10 : Int32)).toUInt32 &&& Int32.toUInt32 31)).toInt32) + (55232 : Int32)).toUInt32 % 65536).toInt32) X.1 X.2.1 (dck_at da_J11_highSurrogate_5068e 5 rfl) rfl ?_
  exact (gnone h).elim
set_option maxRecDepth 100000 in
set_option maxHeartbeats 4000000 in
theorem ok_c_Character_lowSurrogate {l : Launch} {D : va_G} {cy : Nat → ClassId} {ad sa : Nat → Nat} {A : Nat → Prop} {F : Nat} {a0 : Int32} {s0 : St} {ρ : Int32} {σ' : St} (h : c_Character_lowSurrogate F a0 s0 = some (ρ, σ')) : gMi l shC D cy ad sa A yJ11_lowSurrogate_5068e cJ11_lowSurrogate_5068e 1 (some .char) 1 [.int a0] s0 ρ σ' := by
  refine gM_of (by decide) (Nat.le_of_ble_eq_true rfl) ?_
  intro p e s m args below meth c ls X G Y hr hlk hl
  have hl : lv_has ls 1 [(0, .int a0)] := hl
  unfold c_Character_lowSurrogate at h
  refine lv_iload_n X.1 X.2.1 (dck_at da_J11_lowSurrogate_5068e 0 rfl) rfl (lv_at hl 0 rfl) ?_
  refine lv_sipush X.1 X.2.1 (dck_at da_J11_lowSurrogate_5068e 1 rfl) ks_1023 ?_
  refine lv_iand X.1 X.2.1 (dck_at da_J11_lowSurrogate_5068e 2 rfl) ?_
  refine lv_ldc X.1 X.2.1 X.2.2.2.1 (X.2.2.2.2 _ wm_538) (dck_at da_J11_lowSurrogate_5068e 3 rfl) ?_
  refine lv_iadd X.1 X.2.1 (dck_at da_J11_lowSurrogate_5068e 4 rfl) ?_
  refine lv_i2c (v := (((a0 &&& (1023 : Int32)) + (56320 : Int32)).toUInt32 % 65536).toInt32) X.1 X.2.1 (dck_at da_J11_lowSurrogate_5068e 5 rfl) rfl ?_
  exact (gnone h).elim
set_option maxRecDepth 100000 in
set_option maxHeartbeats 4000000 in
theorem ok_c_StringUTF16_length {l : Launch} {D : va_G} {cy : Nat → ClassId} {ad sa : Nat → Nat} {A : Nat → Prop} {F : Nat}  {s0 : St} {ρ : Int32} {σ' : St} (h : c_StringUTF16_length F s0 = some (ρ, σ')) : gMi l shC D cy ad sa A yJ2_length_9d52b cJ2_length_9d52b 1 (some .int) 1 [.ref (sa 4)] s0 ρ σ' := by
  refine gM_of (by decide) (Nat.le_of_ble_eq_true rfl) ?_
  intro p e s m args below meth c ls X G Y hr hlk hl
  have hl : lv_has ls 1 [(0, .ref (sa 4))] := hl
  unfold c_StringUTF16_length at h
  refine lv_aload_n X.1 X.2.1 (dck_at da_J2_length_9d52b 0 rfl) rfl (lv_at hl 0 rfl) ?_
  refine gr_tlen4 X G Y (dck_at da_J2_length_9d52b 1 rfl) ?_
  refine lv_iconst X.1 X.2.1 (dck_at da_J2_length_9d52b 2 rfl) ki_1 ?_
  refine lv_ishr X.1 X.2.1 (dck_at da_J2_length_9d52b 3 rfl) ?_
  exact gr_iretO X Y h hr rfl hlk (dck_at da_J2_length_9d52b 4 rfl)
set_option maxRecDepth 100000 in
set_option maxHeartbeats 4000000 in
theorem ok_c_String_checkBoundsBeginEnd {l : Launch} {D : va_G} {cy : Nat → ClassId} {ad sa : Nat → Nat} {A : Nat → Prop} {F : Nat} {a0 : Int32} {a1 : Int32} {a2 : Int32} {s0 : St} {σ' : St} (h : c_String_checkBoundsBeginEnd F a0 a1 a2 s0 = some σ') : gMv l shC D cy ad sa A yJ0_checkBoundsBeginEnd_23922 cJ0_checkBoundsBeginEnd_23922 3 none 1 [.int a0, .int a1, .int a2] s0 σ' := by
  refine gM_of (by decide) (Nat.le_of_ble_eq_true rfl) ?_
  intro p e s m args below meth c ls X G Y hr hlk hl
  have hl : lv_has ls 3 [(0, .int a0), (1, .int a1), (2, .int a2)] := hl
  unfold c_String_checkBoundsBeginEnd at h
  refine lv_iload_n X.1 X.2.1 (dck_at da_J0_checkBoundsBeginEnd_23922 0 rfl) rfl (lv_at hl 0 rfl) ?_
  refine lv_iload_n X.1 X.2.1 (dck_at da_J0_checkBoundsBeginEnd_23922 1 rfl) rfl (lv_at hl 1 rfl) ?_
  refine lv_iload_n X.1 X.2.1 (dck_at da_J0_checkBoundsBeginEnd_23922 2 rfl) rfl (lv_at hl 2 rfl) ?_
  exact (gnone h).elim
set_option maxRecDepth 100000 in
set_option maxHeartbeats 4000000 in
theorem ok_c_StringUTF16_checkBoundsBeginEnd {l : Launch} {D : va_G} {cy : Nat → ClassId} {ad sa : Nat → Nat} {A : Nat → Prop} {F : Nat} {a0 : Int32} {a1 : Int32} {s0 : St} {σ' : St} (h : c_StringUTF16_checkBoundsBeginEnd F a0 a1 s0 = some σ') : gMv l shC D cy ad sa A yJ2_checkBoundsBeginEnd_d044e cJ2_checkBoundsBeginEnd_d044e 3 none 2 [.int a0, .int a1, .ref (sa 4)] s0 σ' := by
  refine gM_of (by decide) (Nat.le_of_ble_eq_true rfl) ?_
  intro p e s m args below meth c ls X G Y hr hlk hl
  have hl : lv_has ls 3 [(0, .int a0), (1, .int a1), (2, .ref (sa 4))] := hl
  unfold c_StringUTF16_checkBoundsBeginEnd at h
  refine lv_iload_n X.1 X.2.1 (dck_at da_J2_checkBoundsBeginEnd_d044e 0 rfl) rfl (lv_at hl 0 rfl) ?_
  refine lv_iload_n X.1 X.2.1 (dck_at da_J2_checkBoundsBeginEnd_d044e 1 rfl) rfl (lv_at hl 1 rfl) ?_
  refine lv_aload_n X.1 X.2.1 (dck_at da_J2_checkBoundsBeginEnd_d044e 2 rfl) rfl (lv_at hl 2 rfl) ?_
  obtain ⟨r1, s1, hc, h⟩ := gB2_some h
  refine gr_backi Y (gr_runS (as := [.ref (sa 4)]) (rest := [.int a1, .int a0]) X G Y (ok_c_StringUTF16_length hc) cs_RJ2_48 ⟨Nat.le_of_ble_eq_true rfl, Nat.le_of_ble_eq_true rfl⟩ rfl hl.1 (Nat.le_of_ble_eq_true rfl) (dck_at da_J2_checkBoundsBeginEnd_d044e 3 rfl)) (fun H locs Y => ?_)
  obtain ⟨s2, hc, h⟩ := gB_some h
  refine gr_backv Y (gr_runS (as := [.int a0, .int a1, .int r1]) (rest := []) X G Y (ok_c_String_checkBoundsBeginEnd hc) cs_RJ2_241 ⟨Nat.le_of_ble_eq_true rfl, Nat.le_of_ble_eq_true rfl⟩ rfl hl.1 (Nat.le_of_ble_eq_true rfl) (dck_at da_J2_checkBoundsBeginEnd_d044e 4 rfl)) (fun H locs Y => ?_)
  exact gr_vretO X Y h hr hlk (dck_at da_J2_checkBoundsBeginEnd_d044e 5 rfl)
set_option maxRecDepth 100000 in
set_option maxHeartbeats 4000000 in
theorem ok_c_StringUTF16_indexOfSupplementary {l : Launch} {D : va_G} {cy : Nat → ClassId} {ad sa : Nat → Nat} {A : Nat → Prop} {F : Nat} {a1 : Int32} {a2 : Int32} {a3 : Int32} {s0 : St} {ρ : Int32} {σ' : St} (h : c_StringUTF16_indexOfSupplementary F a1 a2 a3 s0 = some (ρ, σ')) : gMi l shC D cy ad sa A yJ2_indexOfSupplementary_4cfef cJ2_indexOfSupplementary_4cfef 7 (some .int) 3 [.ref (sa 4), .int a1, .int a2, .int a3] s0 ρ σ' := by
  refine gM_of (by decide) (Nat.le_of_ble_eq_true rfl) ?_
  intro p e s m args below meth c ls X G Y hr hlk hl
  have hl : lv_has ls 7 [(0, .ref (sa 4)), (1, .int a1), (2, .int a2), (3, .int a3)] := hl
  have b28 : ∀ n : Nat, ∀ (x3 : Int32) (x4 : Int32) (x5 : Int32) (x6 : Int32) (s0 : St) (H : Heap) (locs : List Loc) (ls : Array Slot), c_StringUTF16_indexOfSupplementary_L28 F  n x3 x4 x5 x6 s0 = some (ρ, σ') → gY shC D cy ad A s0 s H locs → lv_has ls 7 [(0, .ref (sa 4)), (3, .int x3), (4, .int x4), (5, .int x5), (6, .int x6)] → W p l e (grm 3) s m args below meth c H locs 0 0 (MQ below (va_Qi (fun (q : Int32) (_ : Unit) => q = ρ) (fun _ t => va_P D vwCl (gWl shC cy ad σ') t.heap) A) args s 0 0 A) (F0 m 28 ls []) := by
    intro n
    induction n with
    | zero => intro x3 x4 x5 x6 s0 H locs ls h Y hl; exact (gnone h).elim
    | succ n hk28 =>
      have e : c_StringUTF16_indexOfSupplementary_L28 F  (n + 1) = c_StringUTF16_indexOfSupplementary_L28b F  (c_StringUTF16_indexOfSupplementary_L28 F  n) := rfl
      rw [e]; clear e
      generalize c_StringUTF16_indexOfSupplementary_L28 F  n = k28 at hk28 ⊢
      have b63 : ∀ (x3 : Int32) (x4 : Int32) (x5 : Int32) (x6 : Int32) (s0 : St) (H : Heap) (locs : List Loc) (ls : Array Slot), c_StringUTF16_indexOfSupplementary_J63 F k28 x3 x4 x5 x6 s0 = some (ρ, σ') → gY shC D cy ad A s0 s H locs → lv_has ls 7 [(0, .ref (sa 4)), (3, .int x3), (4, .int x4), (5, .int x5), (6, .int x6)] → W p l e (grm 3) s m args below meth c H locs 0 0 (MQ below (va_Qi (fun (q : Int32) (_ : Unit) => q = ρ) (fun _ t => va_P D vwCl (gWl shC cy ad σ') t.heap) A) args s 0 0 A) (F0 m 63 ls []) := by
        intro x3 x4 x5 x6 s0 H locs ls h Y hl
        unfold c_StringUTF16_indexOfSupplementary_J63 at h
        refine lv_iinc (v := x6 + (1 : Int32)) (lv' := [(6, .int (x6 + (1 : Int32))), (0, .ref (sa 4)), (3, .int x3), (4, .int x4), (5, .int x5)]) X.1 X.2.1 (dck_at da_J2_indexOfSupplementary_4cfef 34 rfl) hl (k := 4) rfl (congrArg (HAdd.hAdd _) ki_1) (by decide) rfl (fun ls hl => ?_)
        refine lv_goto (tgt := 28) X.1 X.2.1 (dck_at da_J2_indexOfSupplementary_4cfef 35 rfl) rfl ?_
        exact hk28 x3 x4 x5 (x6 + (1 : Int32)) s0 _ _ _ h Y (lv_sub hl [1, 2, 3, 4, 0] rfl)
      intro x3 x4 x5 x6 s0 H locs ls h Y hl
      unfold c_StringUTF16_indexOfSupplementary_L28b at h
      refine lv_iload X.1 X.2.1 (dck_at da_J2_indexOfSupplementary_4cfef 15 rfl) (lv_at hl 4 rfl) ?_
      refine lv_iload_n X.1 X.2.1 (dck_at da_J2_indexOfSupplementary_4cfef 16 rfl) rfl (lv_at hl 1 rfl) ?_
      refine lv_iconst X.1 X.2.1 (dck_at da_J2_indexOfSupplementary_4cfef 17 rfl) ki_1 ?_
      refine lv_isub X.1 X.2.1 (dck_at da_J2_indexOfSupplementary_4cfef 18 rfl) ?_
      refine lv_icmp_ge (tgt := 69) X.1 X.2.1 (dck_at da_J2_indexOfSupplementary_4cfef 19 rfl) rfl (fun c => ?_) (fun c => ?_)
      · have h := gI_pos h c
        refine lv_iconst X.1 X.2.1 (dck_at da_J2_indexOfSupplementary_4cfef 36 rfl) ki_m1 ?_
        exact gr_iretO X Y h hr rfl hlk (dck_at da_J2_indexOfSupplementary_4cfef 37 rfl)
      · have h := gI_neg h c
        refine lv_aload_n X.1 X.2.1 (dck_at da_J2_indexOfSupplementary_4cfef 20 rfl) rfl (lv_at hl 0 rfl) ?_
        refine lv_iload X.1 X.2.1 (dck_at da_J2_indexOfSupplementary_4cfef 21 rfl) (lv_at hl 4 rfl) ?_
        obtain ⟨r1, s1, hc, h⟩ := gB2_some h
        refine gr_backi Y (gr_runS (as := [.ref (sa 4), .int x6]) (rest := []) X G Y (ok_c_StringUTF16_getChar hc) cs_RJ2_71 ⟨Nat.le_of_ble_eq_true rfl, Nat.le_of_ble_eq_true rfl⟩ rfl hl.1 (Nat.le_of_ble_eq_true rfl) (dck_at da_J2_indexOfSupplementary_4cfef 22 rfl)) (fun H locs Y => ?_)
        refine lv_iload X.1 X.2.1 (dck_at da_J2_indexOfSupplementary_4cfef 23 rfl) (lv_at hl 2 rfl) ?_
        refine lv_icmp_ne (tgt := 63) X.1 X.2.1 (dck_at da_J2_indexOfSupplementary_4cfef 24 rfl) rfl (fun c => ?_) (fun c => ?_)
        · have h := gI_neg h c
          exact b63 x3 x4 x5 x6 s1 _ _ _ h Y (lv_sub hl [0, 1, 2, 3, 4] rfl)
        · have h := gI_pos h c
          refine lv_aload_n X.1 X.2.1 (dck_at da_J2_indexOfSupplementary_4cfef 25 rfl) rfl (lv_at hl 0 rfl) ?_
          refine lv_iload X.1 X.2.1 (dck_at da_J2_indexOfSupplementary_4cfef 26 rfl) (lv_at hl 4 rfl) ?_
          refine lv_iconst X.1 X.2.1 (dck_at da_J2_indexOfSupplementary_4cfef 27 rfl) ki_1 ?_
          refine lv_iadd X.1 X.2.1 (dck_at da_J2_indexOfSupplementary_4cfef 28 rfl) ?_
          obtain ⟨r2, s2, hc, h⟩ := gB2_some h
          refine gr_backi Y (gr_runS (as := [.ref (sa 4), .int (x6 + (1 : Int32))]) (rest := []) X G Y (ok_c_StringUTF16_getChar hc) cs_RJ2_71 ⟨Nat.le_of_ble_eq_true rfl, Nat.le_of_ble_eq_true rfl⟩ rfl hl.1 (Nat.le_of_ble_eq_true rfl) (dck_at da_J2_indexOfSupplementary_4cfef 29 rfl)) (fun H locs Y => ?_)
          refine lv_iload X.1 X.2.1 (dck_at da_J2_indexOfSupplementary_4cfef 30 rfl) (lv_at hl 3 rfl) ?_
          refine lv_icmp_ne (tgt := 63) X.1 X.2.1 (dck_at da_J2_indexOfSupplementary_4cfef 31 rfl) rfl (fun c => ?_) (fun c => ?_)
          · have h := gI_neg h c
            exact b63 x3 x4 x5 x6 s2 _ _ _ h Y (lv_sub hl [0, 1, 2, 3, 4] rfl)
          · have h := gI_pos h c
            refine lv_iload X.1 X.2.1 (dck_at da_J2_indexOfSupplementary_4cfef 32 rfl) (lv_at hl 4 rfl) ?_
            exact gr_iretO X Y h hr rfl hlk (dck_at da_J2_indexOfSupplementary_4cfef 33 rfl)
  unfold c_StringUTF16_indexOfSupplementary at h
  refine lv_iload_n X.1 X.2.1 (dck_at da_J2_indexOfSupplementary_4cfef 0 rfl) rfl (lv_at hl 1 rfl) ?_
  obtain ⟨r3, s3, hc, h⟩ := gB2_some h
  refine gr_backi Y (gr_runS (as := [.int a1]) (rest := []) X G Y (ok_c_Character_isValidCodePoint hc) cs_RJ2_164 ⟨Nat.le_of_ble_eq_true rfl, Nat.le_of_ble_eq_true rfl⟩ rfl hl.1 (Nat.le_of_ble_eq_true rfl) (dck_at da_J2_indexOfSupplementary_4cfef 1 rfl)) (fun H locs Y => ?_)
  refine lv_if_eq (tgt := 69) X.1 X.2.1 (dck_at da_J2_indexOfSupplementary_4cfef 2 rfl) rfl (fun c => ?_) (fun c => ?_)
  · have h := gI_pos h c
    refine lv_iconst X.1 X.2.1 (dck_at da_J2_indexOfSupplementary_4cfef 36 rfl) ki_m1 ?_
    exact gr_iretO X Y h hr rfl hlk (dck_at da_J2_indexOfSupplementary_4cfef 37 rfl)
  · have h := gI_neg h c
    refine lv_iload_n X.1 X.2.1 (dck_at da_J2_indexOfSupplementary_4cfef 3 rfl) rfl (lv_at hl 1 rfl) ?_
    obtain ⟨r4, s4, hc, h⟩ := gB2_some h
    refine gr_backi Y (gr_runS (as := [.int a1]) (rest := []) X G Y (ok_c_Character_highSurrogate hc) cs_RJ2_157 ⟨Nat.le_of_ble_eq_true rfl, Nat.le_of_ble_eq_true rfl⟩ rfl hl.1 (Nat.le_of_ble_eq_true rfl) (dck_at da_J2_indexOfSupplementary_4cfef 4 rfl)) (fun H locs Y => ?_)
    refine lv_istore (lv' := [(4, .int r4), (0, .ref (sa 4)), (1, .int a1), (2, .int a2), (3, .int a3)]) X.1 X.2.1 (dck_at da_J2_indexOfSupplementary_4cfef 5 rfl) hl (by decide) rfl (fun ls hl => ?_)
    refine lv_iload_n X.1 X.2.1 (dck_at da_J2_indexOfSupplementary_4cfef 6 rfl) rfl (lv_at hl 2 rfl) ?_
    obtain ⟨r5, s5, hc, h⟩ := gB2_some h
    refine gr_backi Y (gr_runS (as := [.int a1]) (rest := []) X G Y (ok_c_Character_lowSurrogate hc) cs_RJ2_161 ⟨Nat.le_of_ble_eq_true rfl, Nat.le_of_ble_eq_true rfl⟩ rfl hl.1 (Nat.le_of_ble_eq_true rfl) (dck_at da_J2_indexOfSupplementary_4cfef 7 rfl)) (fun H locs Y => ?_)
    refine lv_istore (lv' := [(5, .int r5), (4, .int r4), (0, .ref (sa 4)), (1, .int a1), (2, .int a2), (3, .int a3)]) X.1 X.2.1 (dck_at da_J2_indexOfSupplementary_4cfef 8 rfl) hl (by decide) rfl (fun ls hl => ?_)
    refine lv_iload_n X.1 X.2.1 (dck_at da_J2_indexOfSupplementary_4cfef 9 rfl) rfl (lv_at hl 4 rfl) ?_
    refine lv_iload_n X.1 X.2.1 (dck_at da_J2_indexOfSupplementary_4cfef 10 rfl) rfl (lv_at hl 5 rfl) ?_
    refine lv_aload_n X.1 X.2.1 (dck_at da_J2_indexOfSupplementary_4cfef 11 rfl) rfl (lv_at hl 2 rfl) ?_
    obtain ⟨s6, hc, h⟩ := gB_some h
    refine gr_backv Y (gr_runS (as := [.int a2, .int a3, .ref (sa 4)]) (rest := []) X G Y (ok_c_StringUTF16_checkBoundsBeginEnd hc) cs_RJ2_96 ⟨Nat.le_of_ble_eq_true rfl, Nat.le_of_ble_eq_true rfl⟩ rfl hl.1 (Nat.le_of_ble_eq_true rfl) (dck_at da_J2_indexOfSupplementary_4cfef 12 rfl)) (fun H locs Y => ?_)
    refine lv_iload_n X.1 X.2.1 (dck_at da_J2_indexOfSupplementary_4cfef 13 rfl) rfl (lv_at hl 4 rfl) ?_
    refine lv_istore (lv' := [(6, .int a2), (5, .int r5), (4, .int r4), (0, .ref (sa 4)), (1, .int a1), (2, .int a2), (3, .int a3)]) X.1 X.2.1 (dck_at da_J2_indexOfSupplementary_4cfef 14 rfl) hl (by decide) rfl (fun ls hl => ?_)
    exact b28 F a3 r4 r5 a2 s6 _ _ _ h Y (lv_sub hl [3, 6, 2, 1, 0] rfl)
set_option maxRecDepth 100000 in
set_option maxHeartbeats 4000000 in
theorem ok_c_StringUTF16_indexOfCharUnsafe {l : Launch} {D : va_G} {cy : Nat → ClassId} {ad sa : Nat → Nat} {A : Nat → Prop} {F : Nat} {a1 : Int32} {a2 : Int32} {a3 : Int32} {s0 : St} {ρ : Int32} {σ' : St} (h : c_StringUTF16_indexOfCharUnsafe F a1 a2 a3 s0 = some (ρ, σ')) : gMi l shC D cy ad sa A yJ2_indexOfCharUnsafe_4cfef cJ2_indexOfCharUnsafe_4cfef 5 (some .int) 2 [.ref (sa 4), .int a1, .int a2, .int a3] s0 ρ σ' := by
  refine gM_of (by decide) (Nat.le_of_ble_eq_true rfl) ?_
  intro p e s m args below meth c ls X G Y hr hlk hl
  have hl : lv_has ls 5 [(0, .ref (sa 4)), (1, .int a1), (2, .int a2), (3, .int a3)] := hl
  have b3 : ∀ n : Nat, ∀ (x1 : Int32) (x3 : Int32) (x4 : Int32) (s0 : St) (H : Heap) (locs : List Loc) (ls : Array Slot), c_StringUTF16_indexOfCharUnsafe_L3 F  n x1 x3 x4 s0 = some (ρ, σ') → gY shC D cy ad A s0 s H locs → lv_has ls 5 [(0, .ref (sa 4)), (1, .int x1), (3, .int x3), (4, .int x4)] → W p l e (grm 2) s m args below meth c H locs 0 0 (MQ below (va_Qi (fun (q : Int32) (_ : Unit) => q = ρ) (fun _ t => va_P D vwCl (gWl shC cy ad σ') t.heap) A) args s 0 0 A) (F0 m 3 ls []) := by
    intro n
    induction n with
    | zero => intro x1 x3 x4 s0 H locs ls h Y hl; exact (gnone h).elim
    | succ n hk3 =>
      have e : c_StringUTF16_indexOfCharUnsafe_L3 F  (n + 1) = c_StringUTF16_indexOfCharUnsafe_L3b F  (c_StringUTF16_indexOfCharUnsafe_L3 F  n) := rfl
      rw [e]; clear e
      generalize c_StringUTF16_indexOfCharUnsafe_L3 F  n = k3 at hk3 ⊢
      intro x1 x3 x4 s0 H locs ls h Y hl
      unfold c_StringUTF16_indexOfCharUnsafe_L3b at h
      refine lv_iload X.1 X.2.1 (dck_at da_J2_indexOfCharUnsafe_4cfef 2 rfl) (lv_at hl 3 rfl) ?_
      refine lv_iload_n X.1 X.2.1 (dck_at da_J2_indexOfCharUnsafe_4cfef 3 rfl) rfl (lv_at hl 2 rfl) ?_
      refine lv_icmp_ge (tgt := 28) X.1 X.2.1 (dck_at da_J2_indexOfCharUnsafe_4cfef 4 rfl) rfl (fun c => ?_) (fun c => ?_)
      · have h := gI_pos h c
        refine lv_iconst X.1 X.2.1 (dck_at da_J2_indexOfCharUnsafe_4cfef 14 rfl) ki_m1 ?_
        exact gr_iretO X Y h hr rfl hlk (dck_at da_J2_indexOfCharUnsafe_4cfef 15 rfl)
      · have h := gI_neg h c
        refine lv_aload_n X.1 X.2.1 (dck_at da_J2_indexOfCharUnsafe_4cfef 5 rfl) rfl (lv_at hl 0 rfl) ?_
        refine lv_iload X.1 X.2.1 (dck_at da_J2_indexOfCharUnsafe_4cfef 6 rfl) (lv_at hl 3 rfl) ?_
        obtain ⟨r1, s1, hc, h⟩ := gB2_some h
        refine gr_backi Y (gr_runS (as := [.ref (sa 4), .int x4]) (rest := []) X G Y (ok_c_StringUTF16_getChar hc) cs_RJ2_71 ⟨Nat.le_of_ble_eq_true rfl, Nat.le_of_ble_eq_true rfl⟩ rfl hl.1 (Nat.le_of_ble_eq_true rfl) (dck_at da_J2_indexOfCharUnsafe_4cfef 7 rfl)) (fun H locs Y => ?_)
        refine lv_iload_n X.1 X.2.1 (dck_at da_J2_indexOfCharUnsafe_4cfef 8 rfl) rfl (lv_at hl 1 rfl) ?_
        refine lv_icmp_ne (tgt := 22) X.1 X.2.1 (dck_at da_J2_indexOfCharUnsafe_4cfef 9 rfl) rfl (fun c => ?_) (fun c => ?_)
        · have h := gI_neg h c
          refine lv_iinc (v := x4 + (1 : Int32)) (lv' := [(4, .int (x4 + (1 : Int32))), (0, .ref (sa 4)), (1, .int x1), (3, .int x3)]) X.1 X.2.1 (dck_at da_J2_indexOfCharUnsafe_4cfef 12 rfl) hl (k := 3) rfl (congrArg (HAdd.hAdd _) ki_1) (by decide) rfl (fun ls hl => ?_)
          refine lv_goto (tgt := 3) X.1 X.2.1 (dck_at da_J2_indexOfCharUnsafe_4cfef 13 rfl) rfl ?_
          exact hk3 x1 x3 (x4 + (1 : Int32)) s1 _ _ _ h Y (lv_sub hl [1, 2, 3, 0] rfl)
        · have h := gI_pos h c
          refine lv_iload X.1 X.2.1 (dck_at da_J2_indexOfCharUnsafe_4cfef 10 rfl) (lv_at hl 3 rfl) ?_
          exact gr_iretO X Y h hr rfl hlk (dck_at da_J2_indexOfCharUnsafe_4cfef 11 rfl)
  unfold c_StringUTF16_indexOfCharUnsafe at h
  refine lv_iload_n X.1 X.2.1 (dck_at da_J2_indexOfCharUnsafe_4cfef 0 rfl) rfl (lv_at hl 2 rfl) ?_
  refine lv_istore (lv' := [(4, .int a2), (0, .ref (sa 4)), (1, .int a1), (2, .int a2), (3, .int a3)]) X.1 X.2.1 (dck_at da_J2_indexOfCharUnsafe_4cfef 1 rfl) hl (by decide) rfl (fun ls hl => ?_)
  exact b3 F a1 a3 a2 s0 _ _ _ h Y (lv_sub hl [1, 2, 4, 0] rfl)
set_option maxRecDepth 100000 in
set_option maxHeartbeats 4000000 in
theorem ok_c_StringUTF16_indexOfChar {l : Launch} {D : va_G} {cy : Nat → ClassId} {ad sa : Nat → Nat} {A : Nat → Prop} {F : Nat} {a1 : Int32} {a2 : Int32} {a3 : Int32} {s0 : St} {ρ : Int32} {σ' : St} (h : c_StringUTF16_indexOfChar F a1 a2 a3 s0 = some (ρ, σ')) : gMi l shC D cy ad sa A yJ2_indexOfChar_4cfef cJ2_indexOfChar_4cfef 4 (some .int) 3 [.ref (sa 4), .int a1, .int a2, .int a3] s0 ρ σ' := by
  refine gM_of (by decide) (Nat.le_of_ble_eq_true rfl) ?_
  intro p e s m args below meth c ls X G Y hr hlk hl
  have hl : lv_has ls 4 [(0, .ref (sa 4)), (1, .int a1), (2, .int a2), (3, .int a3)] := hl
  unfold c_StringUTF16_indexOfChar at h
  refine lv_iload_n X.1 X.2.1 (dck_at da_J2_indexOfChar_4cfef 0 rfl) rfl (lv_at hl 2 rfl) ?_
  refine lv_iload_n X.1 X.2.1 (dck_at da_J2_indexOfChar_4cfef 1 rfl) rfl (lv_at hl 3 rfl) ?_
  refine lv_aload_n X.1 X.2.1 (dck_at da_J2_indexOfChar_4cfef 2 rfl) rfl (lv_at hl 0 rfl) ?_
  obtain ⟨s1, hc, h⟩ := gB_some h
  refine gr_backv Y (gr_runS (as := [.int a2, .int a3, .ref (sa 4)]) (rest := []) X G Y (ok_c_StringUTF16_checkBoundsBeginEnd hc) cs_RJ2_96 ⟨Nat.le_of_ble_eq_true rfl, Nat.le_of_ble_eq_true rfl⟩ rfl hl.1 (Nat.le_of_ble_eq_true rfl) (dck_at da_J2_indexOfChar_4cfef 3 rfl)) (fun H locs Y => ?_)
  refine lv_aload_n X.1 X.2.1 (dck_at da_J2_indexOfChar_4cfef 4 rfl) rfl (lv_at hl 0 rfl) ?_
  refine lv_iload_n X.1 X.2.1 (dck_at da_J2_indexOfChar_4cfef 5 rfl) rfl (lv_at hl 1 rfl) ?_
  refine lv_iload_n X.1 X.2.1 (dck_at da_J2_indexOfChar_4cfef 6 rfl) rfl (lv_at hl 2 rfl) ?_
  refine lv_iload_n X.1 X.2.1 (dck_at da_J2_indexOfChar_4cfef 7 rfl) rfl (lv_at hl 3 rfl) ?_
  obtain ⟨r2, s2, hc, h⟩ := gB2_some h
  refine gr_backi Y (gr_runS (as := [.ref (sa 4), .int a1, .int a2, .int a3]) (rest := []) X G Y (ok_c_StringUTF16_indexOfCharUnsafe hc) cs_RJ2_244 ⟨Nat.le_of_ble_eq_true rfl, Nat.le_of_ble_eq_true rfl⟩ rfl hl.1 (Nat.le_of_ble_eq_true rfl) (dck_at da_J2_indexOfChar_4cfef 8 rfl)) (fun H locs Y => ?_)
  exact gr_iretO X Y h hr rfl hlk (dck_at da_J2_indexOfChar_4cfef 9 rfl)
set_option maxRecDepth 100000 in
set_option maxHeartbeats 4000000 in
theorem ok_c_StringUTF16_indexOf {l : Launch} {D : va_G} {cy : Nat → ClassId} {ad sa : Nat → Nat} {A : Nat → Prop} {F : Nat} {a1 : Int32} {a2 : Int32} {a3 : Int32} {s0 : St} {ρ : Int32} {σ' : St} (h : c_StringUTF16_indexOf F a1 a2 a3 s0 = some (ρ, σ')) : gMi l shC D cy ad sa A yJ2_indexOf_4cfef cJ2_indexOf_4cfef 4 (some .int) 4 [.ref (sa 4), .int a1, .int a2, .int a3] s0 ρ σ' := by
  refine gM_of (by decide) (Nat.le_of_ble_eq_true rfl) ?_
  intro p e s m args below meth c ls X G Y hr hlk hl
  have hl : lv_has ls 4 [(0, .ref (sa 4)), (1, .int a1), (2, .int a2), (3, .int a3)] := hl
  unfold c_StringUTF16_indexOf at h
  refine lv_iload_n X.1 X.2.1 (dck_at da_J2_indexOf_4cfef 0 rfl) rfl (lv_at hl 2 rfl) ?_
  refine lv_iconst X.1 X.2.1 (dck_at da_J2_indexOf_4cfef 1 rfl) ki_0 ?_
  refine gr_mmax X hl.1 wm_493 wm_482 wm_62 wm_483 ⟨Nat.le_of_ble_eq_true rfl, Nat.le_of_ble_eq_true rfl⟩ (dck_at da_J2_indexOf_4cfef 2 rfl) ?_
  refine lv_istore_n (lv' := [(2, .int (gMmax a2 (0 : Int32))), (0, .ref (sa 4)), (1, .int a1), (3, .int a3)]) X.1 X.2.1 (dck_at da_J2_indexOf_4cfef 3 rfl) rfl hl (by decide) rfl (fun ls hl => ?_)
  refine lv_iload_n X.1 X.2.1 (dck_at da_J2_indexOf_4cfef 4 rfl) rfl (lv_at hl 3 rfl) ?_
  refine lv_aload_n X.1 X.2.1 (dck_at da_J2_indexOf_4cfef 5 rfl) rfl (lv_at hl 1 rfl) ?_
  refine gr_tlen4 X G Y (dck_at da_J2_indexOf_4cfef 6 rfl) ?_
  refine lv_iconst X.1 X.2.1 (dck_at da_J2_indexOf_4cfef 7 rfl) ki_1 ?_
  refine lv_ishr X.1 X.2.1 (dck_at da_J2_indexOf_4cfef 8 rfl) ?_
  refine gr_mmin X hl.1 wm_494 wm_485 wm_62 wm_486 ⟨Nat.le_of_ble_eq_true rfl, Nat.le_of_ble_eq_true rfl⟩ (dck_at da_J2_indexOf_4cfef 9 rfl) ?_
  refine lv_istore_n (lv' := [(3, .int (gMmin a3 ((8 : Int32) >>> ((1 : Int32) &&& 31)))), (2, .int (gMmax a2 (0 : Int32))), (0, .ref (sa 4)), (1, .int a1)]) X.1 X.2.1 (dck_at da_J2_indexOf_4cfef 10 rfl) rfl hl (by decide) rfl (fun ls hl => ?_)
  refine lv_iload_n X.1 X.2.1 (dck_at da_J2_indexOf_4cfef 11 rfl) rfl (lv_at hl 1 rfl) ?_
  refine lv_iload_n X.1 X.2.1 (dck_at da_J2_indexOf_4cfef 12 rfl) rfl (lv_at hl 0 rfl) ?_
  refine lv_icmp_lt (tgt := 22) X.1 X.2.1 (dck_at da_J2_indexOf_4cfef 13 rfl) rfl (fun c => ?_) (fun c => ?_)
  · have h := gI_pos h c
    refine lv_iload_n X.1 X.2.1 (dck_at da_J2_indexOf_4cfef 16 rfl) rfl (lv_at hl 3 rfl) ?_
    refine lv_ldc X.1 X.2.1 X.2.2.2.1 (X.2.2.2.2 _ wm_495) (dck_at da_J2_indexOf_4cfef 17 rfl) ?_
    refine lv_icmp_ge (tgt := 36) X.1 X.2.1 (dck_at da_J2_indexOf_4cfef 18 rfl) rfl (fun c => ?_) (fun c => ?_)
    · have h := gI_pos h c
      refine lv_aload_n X.1 X.2.1 (dck_at da_J2_indexOf_4cfef 25 rfl) rfl (lv_at hl 2 rfl) ?_
      refine lv_iload_n X.1 X.2.1 (dck_at da_J2_indexOf_4cfef 26 rfl) rfl (lv_at hl 3 rfl) ?_
      refine lv_iload_n X.1 X.2.1 (dck_at da_J2_indexOf_4cfef 27 rfl) rfl (lv_at hl 1 rfl) ?_
      refine lv_iload_n X.1 X.2.1 (dck_at da_J2_indexOf_4cfef 28 rfl) rfl (lv_at hl 0 rfl) ?_
      obtain ⟨r1, s1, hc, h⟩ := gB2_some h
      refine gr_backi Y (gr_runS (as := [.ref (sa 4), .int a1, .int (gMmax a2 (0 : Int32)), .int (gMmin a3 ((8 : Int32) >>> ((1 : Int32) &&& 31)))]) (rest := []) X G Y (ok_c_StringUTF16_indexOfSupplementary hc) cs_RJ2_232 ⟨Nat.le_of_ble_eq_true rfl, Nat.le_of_ble_eq_true rfl⟩ rfl hl.1 (Nat.le_of_ble_eq_true rfl) (dck_at da_J2_indexOf_4cfef 29 rfl)) (fun H locs Y => ?_)
      exact gr_iretO X Y h hr rfl hlk (dck_at da_J2_indexOf_4cfef 30 rfl)
    · have h := gI_neg h c
      refine lv_aload_n X.1 X.2.1 (dck_at da_J2_indexOf_4cfef 19 rfl) rfl (lv_at hl 2 rfl) ?_
      refine lv_iload_n X.1 X.2.1 (dck_at da_J2_indexOf_4cfef 20 rfl) rfl (lv_at hl 3 rfl) ?_
      refine lv_iload_n X.1 X.2.1 (dck_at da_J2_indexOf_4cfef 21 rfl) rfl (lv_at hl 1 rfl) ?_
      refine lv_iload_n X.1 X.2.1 (dck_at da_J2_indexOf_4cfef 22 rfl) rfl (lv_at hl 0 rfl) ?_
      obtain ⟨r2, s2, hc, h⟩ := gB2_some h
      refine gr_backi Y (gr_runS (as := [.ref (sa 4), .int a1, .int (gMmax a2 (0 : Int32)), .int (gMmin a3 ((8 : Int32) >>> ((1 : Int32) &&& 31)))]) (rest := []) X G Y (ok_c_StringUTF16_indexOfChar hc) cs_RJ2_228 ⟨Nat.le_of_ble_eq_true rfl, Nat.le_of_ble_eq_true rfl⟩ rfl hl.1 (Nat.le_of_ble_eq_true rfl) (dck_at da_J2_indexOf_4cfef 23 rfl)) (fun H locs Y => ?_)
      exact gr_iretO X Y h hr rfl hlk (dck_at da_J2_indexOf_4cfef 24 rfl)
  · have h := gI_neg h c
    refine lv_iconst X.1 X.2.1 (dck_at da_J2_indexOf_4cfef 14 rfl) ki_m1 ?_
    exact gr_iretO X Y h hr rfl hlk (dck_at da_J2_indexOf_4cfef 15 rfl)
set_option maxRecDepth 100000 in
set_option maxHeartbeats 4000000 in
theorem ok_c_StringLatin1_canEncode {l : Launch} {D : va_G} {cy : Nat → ClassId} {ad sa : Nat → Nat} {A : Nat → Prop} {F : Nat} {a0 : Int32} {s0 : St} {ρ : Int32} {σ' : St} (h : c_StringLatin1_canEncode F a0 s0 = some (ρ, σ')) : gMi l shC D cy ad sa A yJ1_canEncode_9a6ad cJ1_canEncode_9a6ad 1 (some .boolean) 1 [.int a0] s0 ρ σ' := by
  refine gM_of (by decide) (Nat.le_of_ble_eq_true rfl) ?_
  intro p e s m args below meth c ls X G Y hr hlk hl
  have hl : lv_has ls 1 [(0, .int a0)] := hl
  have b15 : ∀  (s0 : St) (H : Heap) (locs : List Loc) (ls : Array Slot), c_StringLatin1_canEncode_J15 F  s0 = some (ρ, σ') → gY shC D cy ad A s0 s H locs → lv_has ls 1 [] → W p l e (grm 1) s m args below meth c H locs 0 0 (MQ below (va_Qi (fun (q : Int32) (_ : Unit) => q = ρ) (fun _ t => va_P D vwCl (gWl shC cy ad σ') t.heap) A) args s 0 0 A) (F0 m 15 ls []) := by
    intro s0 H locs ls h Y hl
    unfold c_StringLatin1_canEncode_J15 at h
    refine lv_iconst X.1 X.2.1 (dck_at da_J1_canEncode_9a6ad 7 rfl) ki_0 ?_
    exact gr_iretO X Y h hr rfl hlk (dck_at da_J1_canEncode_9a6ad 8 rfl)
  unfold c_StringLatin1_canEncode at h
  refine lv_iload_n X.1 X.2.1 (dck_at da_J1_canEncode_9a6ad 0 rfl) rfl (lv_at hl 0 rfl) ?_
  refine lv_if_lt (tgt := 15) X.1 X.2.1 (dck_at da_J1_canEncode_9a6ad 1 rfl) rfl (fun c => ?_) (fun c => ?_)
  · have h := gI_pos h c
    exact b15 s0 _ _ _ h Y (lv_sub hl [] rfl)
  · have h := gI_neg h c
    refine lv_iload_n X.1 X.2.1 (dck_at da_J1_canEncode_9a6ad 2 rfl) rfl (lv_at hl 0 rfl) ?_
    refine lv_sipush X.1 X.2.1 (dck_at da_J1_canEncode_9a6ad 3 rfl) ks_255 ?_
    refine lv_icmp_gt (tgt := 15) X.1 X.2.1 (dck_at da_J1_canEncode_9a6ad 4 rfl) rfl (fun c => ?_) (fun c => ?_)
    · have h := gI_pos h c
      exact b15 s0 _ _ _ h Y (lv_sub hl [] rfl)
    · have h := gI_neg h c
      refine lv_iconst X.1 X.2.1 (dck_at da_J1_canEncode_9a6ad 5 rfl) ki_1 ?_
      refine lv_goto (tgt := 16) X.1 X.2.1 (dck_at da_J1_canEncode_9a6ad 6 rfl) rfl ?_
      exact gr_iretO X Y h hr rfl hlk (dck_at da_J1_canEncode_9a6ad 8 rfl)
set_option maxRecDepth 100000 in
set_option maxHeartbeats 4000000 in
theorem ok_c_StringLatin1_indexOfChar {l : Launch} {D : va_G} {cy : Nat → ClassId} {ad sa : Nat → Nat} {A : Nat → Prop} {F : Nat} {a1 : Int32} {a2 : Int32} {a3 : Int32} {s0 : St} {ρ : Int32} {σ' : St} (h : c_StringLatin1_indexOfChar F a1 a2 a3 s0 = some (ρ, σ')) : gMi l shC D cy ad sa A yJ1_indexOfChar_4cfef cJ1_indexOfChar_4cfef 6 (some .int) 1 [.ref (sa 4), .int a1, .int a2, .int a3] s0 ρ σ' := by
  refine gM_of (by decide) (Nat.le_of_ble_eq_true rfl) ?_
  intro p e s m args below meth c ls X G Y hr hlk hl
  have hl : lv_has ls 6 [(0, .ref (sa 4)), (1, .int a1), (2, .int a2), (3, .int a3)] := hl
  have b7 : ∀ n : Nat, ∀ (x3 : Int32) (x4 : Int32) (x5 : Int32) (s0 : St) (H : Heap) (locs : List Loc) (ls : Array Slot), c_StringLatin1_indexOfChar_L7 F  n x3 x4 x5 s0 = some (ρ, σ') → gY shC D cy ad A s0 s H locs → lv_has ls 6 [(0, .ref (sa 4)), (3, .int x3), (4, .int x4), (5, .int x5)] → W p l e (grm 1) s m args below meth c H locs 0 0 (MQ below (va_Qi (fun (q : Int32) (_ : Unit) => q = ρ) (fun _ t => va_P D vwCl (gWl shC cy ad σ') t.heap) A) args s 0 0 A) (F0 m 7 ls []) := by
    intro n
    induction n with
    | zero => intro x3 x4 x5 s0 H locs ls h Y hl; exact (gnone h).elim
    | succ n hk7 =>
      have e : c_StringLatin1_indexOfChar_L7 F  (n + 1) = c_StringLatin1_indexOfChar_L7b F  (c_StringLatin1_indexOfChar_L7 F  n) := rfl
      rw [e]; clear e
      generalize c_StringLatin1_indexOfChar_L7 F  n = k7 at hk7 ⊢
      intro x3 x4 x5 s0 H locs ls h Y hl
      unfold c_StringLatin1_indexOfChar_L7b at h
      refine lv_iload X.1 X.2.1 (dck_at da_J1_indexOfChar_4cfef 5 rfl) (lv_at hl 3 rfl) ?_
      refine lv_iload_n X.1 X.2.1 (dck_at da_J1_indexOfChar_4cfef 6 rfl) rfl (lv_at hl 1 rfl) ?_
      refine lv_icmp_ge (tgt := 31) X.1 X.2.1 (dck_at da_J1_indexOfChar_4cfef 7 rfl) rfl (fun c => ?_) (fun c => ?_)
      · have h := gI_pos h c
        refine lv_iconst X.1 X.2.1 (dck_at da_J1_indexOfChar_4cfef 17 rfl) ki_m1 ?_
        exact gr_iretO X Y h hr rfl hlk (dck_at da_J1_indexOfChar_4cfef 18 rfl)
      · have h := gI_neg h c
        refine lv_aload_n X.1 X.2.1 (dck_at da_J1_indexOfChar_4cfef 8 rfl) rfl (lv_at hl 0 rfl) ?_
        refine lv_iload X.1 X.2.1 (dck_at da_J1_indexOfChar_4cfef 9 rfl) (lv_at hl 3 rfl) ?_
        obtain ⟨hin, h⟩ := gI_if h
        refine gr_tald4 X G Y hin (dck_at da_J1_indexOfChar_4cfef 10 rfl) ?_
        refine lv_iload X.1 X.2.1 (dck_at da_J1_indexOfChar_4cfef 11 rfl) (lv_at hl 2 rfl) ?_
        refine lv_icmp_ne (tgt := 25) X.1 X.2.1 (dck_at da_J1_indexOfChar_4cfef 12 rfl) rfl (fun c => ?_) (fun c => ?_)
        · have h := gI_neg h c
          refine lv_iinc (v := x5 + (1 : Int32)) (lv' := [(5, .int (x5 + (1 : Int32))), (0, .ref (sa 4)), (3, .int x3), (4, .int x4)]) X.1 X.2.1 (dck_at da_J1_indexOfChar_4cfef 15 rfl) hl (k := 3) rfl (congrArg (HAdd.hAdd _) ki_1) (by decide) rfl (fun ls hl => ?_)
          refine lv_goto (tgt := 7) X.1 X.2.1 (dck_at da_J1_indexOfChar_4cfef 16 rfl) rfl ?_
          exact hk7 x3 x4 (x5 + (1 : Int32)) s0 _ _ _ h Y (lv_sub hl [1, 2, 3, 0] rfl)
        · have h := gI_pos h c
          refine lv_iload X.1 X.2.1 (dck_at da_J1_indexOfChar_4cfef 13 rfl) (lv_at hl 3 rfl) ?_
          exact gr_iretO X Y h hr rfl hlk (dck_at da_J1_indexOfChar_4cfef 14 rfl)
  unfold c_StringLatin1_indexOfChar at h
  refine lv_iload_n X.1 X.2.1 (dck_at da_J1_indexOfChar_4cfef 0 rfl) rfl (lv_at hl 1 rfl) ?_
  refine lv_i2b (v := (a1).toInt8.toInt32) X.1 X.2.1 (dck_at da_J1_indexOfChar_4cfef 1 rfl) rfl ?_
  refine lv_istore (lv' := [(4, .int ((a1).toInt8.toInt32)), (0, .ref (sa 4)), (1, .int a1), (2, .int a2), (3, .int a3)]) X.1 X.2.1 (dck_at da_J1_indexOfChar_4cfef 2 rfl) hl (by decide) rfl (fun ls hl => ?_)
  refine lv_iload_n X.1 X.2.1 (dck_at da_J1_indexOfChar_4cfef 3 rfl) rfl (lv_at hl 3 rfl) ?_
  refine lv_istore (lv' := [(5, .int a2), (4, .int ((a1).toInt8.toInt32)), (0, .ref (sa 4)), (1, .int a1), (2, .int a2), (3, .int a3)]) X.1 X.2.1 (dck_at da_J1_indexOfChar_4cfef 4 rfl) hl (by decide) rfl (fun ls hl => ?_)
  exact b7 F a3 ((a1).toInt8.toInt32) a2 s0 _ _ _ h Y (lv_sub hl [2, 5, 1, 0] rfl)
set_option maxRecDepth 100000 in
set_option maxHeartbeats 4000000 in
theorem ok_c_StringLatin1_indexOf {l : Launch} {D : va_G} {cy : Nat → ClassId} {ad sa : Nat → Nat} {A : Nat → Prop} {F : Nat} {a1 : Int32} {a2 : Int32} {a3 : Int32} {s0 : St} {ρ : Int32} {σ' : St} (h : c_StringLatin1_indexOf F a1 a2 a3 s0 = some (ρ, σ')) : gMi l shC D cy ad sa A yJ1_indexOf_4cfef cJ1_indexOf_4cfef 4 (some .int) 2 [.ref (sa 4), .int a1, .int a2, .int a3] s0 ρ σ' := by
  refine gM_of (by decide) (Nat.le_of_ble_eq_true rfl) ?_
  intro p e s m args below meth c ls X G Y hr hlk hl
  have hl : lv_has ls 4 [(0, .ref (sa 4)), (1, .int a1), (2, .int a2), (3, .int a3)] := hl
  unfold c_StringLatin1_indexOf at h
  refine lv_iload_n X.1 X.2.1 (dck_at da_J1_indexOf_4cfef 0 rfl) rfl (lv_at hl 1 rfl) ?_
  obtain ⟨r1, s1, hc, h⟩ := gB2_some h
  refine gr_backi Y (gr_runS (as := [.int a1]) (rest := []) X G Y (ok_c_StringLatin1_canEncode hc) cs_RJ1_88 ⟨Nat.le_of_ble_eq_true rfl, Nat.le_of_ble_eq_true rfl⟩ rfl hl.1 (Nat.le_of_ble_eq_true rfl) (dck_at da_J1_indexOf_4cfef 1 rfl)) (fun H locs Y => ?_)
  refine lv_if_ne (tgt := 9) X.1 X.2.1 (dck_at da_J1_indexOf_4cfef 2 rfl) rfl (fun c => ?_) (fun c => ?_)
  · have h := gI_neg h c
    refine lv_iload_n X.1 X.2.1 (dck_at da_J1_indexOf_4cfef 5 rfl) rfl (lv_at hl 2 rfl) ?_
    refine lv_iconst X.1 X.2.1 (dck_at da_J1_indexOf_4cfef 6 rfl) ki_0 ?_
    refine gr_mmax X hl.1 wm_481 wm_482 wm_62 wm_483 ⟨Nat.le_of_ble_eq_true rfl, Nat.le_of_ble_eq_true rfl⟩ (dck_at da_J1_indexOf_4cfef 7 rfl) ?_
    refine lv_istore_n (lv' := [(2, .int (gMmax a2 (0 : Int32))), (0, .ref (sa 4)), (1, .int a1), (3, .int a3)]) X.1 X.2.1 (dck_at da_J1_indexOf_4cfef 8 rfl) rfl hl (by decide) rfl (fun ls hl => ?_)
    refine lv_iload_n X.1 X.2.1 (dck_at da_J1_indexOf_4cfef 9 rfl) rfl (lv_at hl 3 rfl) ?_
    refine lv_aload_n X.1 X.2.1 (dck_at da_J1_indexOf_4cfef 10 rfl) rfl (lv_at hl 1 rfl) ?_
    refine gr_tlen4 X G Y (dck_at da_J1_indexOf_4cfef 11 rfl) ?_
    refine gr_mmin X hl.1 wm_484 wm_485 wm_62 wm_486 ⟨Nat.le_of_ble_eq_true rfl, Nat.le_of_ble_eq_true rfl⟩ (dck_at da_J1_indexOf_4cfef 12 rfl) ?_
    refine lv_istore_n (lv' := [(3, .int (gMmin a3 (8 : Int32))), (2, .int (gMmax a2 (0 : Int32))), (0, .ref (sa 4)), (1, .int a1)]) X.1 X.2.1 (dck_at da_J1_indexOf_4cfef 13 rfl) rfl hl (by decide) rfl (fun ls hl => ?_)
    refine lv_iload_n X.1 X.2.1 (dck_at da_J1_indexOf_4cfef 14 rfl) rfl (lv_at hl 1 rfl) ?_
    refine lv_iload_n X.1 X.2.1 (dck_at da_J1_indexOf_4cfef 15 rfl) rfl (lv_at hl 0 rfl) ?_
    refine lv_icmp_lt (tgt := 29) X.1 X.2.1 (dck_at da_J1_indexOf_4cfef 16 rfl) rfl (fun c => ?_) (fun c => ?_)
    · have h := gI_pos h c
      refine lv_aload_n X.1 X.2.1 (dck_at da_J1_indexOf_4cfef 19 rfl) rfl (lv_at hl 2 rfl) ?_
      refine lv_iload_n X.1 X.2.1 (dck_at da_J1_indexOf_4cfef 20 rfl) rfl (lv_at hl 3 rfl) ?_
      refine lv_iload_n X.1 X.2.1 (dck_at da_J1_indexOf_4cfef 21 rfl) rfl (lv_at hl 1 rfl) ?_
      refine lv_iload_n X.1 X.2.1 (dck_at da_J1_indexOf_4cfef 22 rfl) rfl (lv_at hl 0 rfl) ?_
      obtain ⟨r2, s2, hc, h⟩ := gB2_some h
      refine gr_backi Y (gr_runS (as := [.ref (sa 4), .int a1, .int (gMmax a2 (0 : Int32)), .int (gMmin a3 (8 : Int32))]) (rest := []) X G Y (ok_c_StringLatin1_indexOfChar hc) cs_RJ1_95 ⟨Nat.le_of_ble_eq_true rfl, Nat.le_of_ble_eq_true rfl⟩ rfl hl.1 (Nat.le_of_ble_eq_true rfl) (dck_at da_J1_indexOf_4cfef 23 rfl)) (fun H locs Y => ?_)
      exact gr_iretO X Y h hr rfl hlk (dck_at da_J1_indexOf_4cfef 24 rfl)
    · have h := gI_neg h c
      refine lv_iconst X.1 X.2.1 (dck_at da_J1_indexOf_4cfef 17 rfl) ki_m1 ?_
      exact gr_iretO X Y h hr rfl hlk (dck_at da_J1_indexOf_4cfef 18 rfl)
  · have h := gI_pos h c
    refine lv_iconst X.1 X.2.1 (dck_at da_J1_indexOf_4cfef 3 rfl) ki_m1 ?_
    exact gr_iretO X Y h hr rfl hlk (dck_at da_J1_indexOf_4cfef 4 rfl)
set_option maxRecDepth 100000 in
set_option maxHeartbeats 4000000 in
theorem ok_c_String_indexOf_7cf53 {l : Launch} {D : va_G} {cy : Nat → ClassId} {ad sa : Nat → Nat} {A : Nat → Prop} {F : Nat} {a1 : Int32} {a2 : Int32} {s0 : St} {ρ : Int32} {σ' : St} (h : c_String_indexOf_7cf53 F a1 a2 s0 = some (ρ, σ')) : gMi l shC D cy ad sa A yJ0_indexOf_7cf53 cJ0_indexOf_7cf53 3 (some .int) 5 [.ref (sa 2), .int a1, .int a2] s0 ρ σ' := by
  refine gM_of (by decide) (Nat.le_of_ble_eq_true rfl) ?_
  intro p e s m args below meth c ls X G Y hr hlk hl
  have hl : lv_has ls 3 [(0, .ref (sa 2)), (1, .int a1), (2, .int a2)] := hl
  unfold c_String_indexOf_7cf53 at h
  refine lv_aload_n X.1 X.2.1 (dck_at da_J0_indexOf_7cf53 0 rfl) rfl (lv_at hl 0 rfl) ?_
  obtain ⟨r1, s1, hc, h⟩ := gB2_some h
  refine gr_backi Y (gr_runW2 (as := []) (rest := []) X G Y (ok_c_String_isLatin1 hc) cv_RJ0_492 ⟨Nat.le_of_ble_eq_true rfl, Nat.le_of_ble_eq_true rfl⟩ rfl hl.1 (Nat.le_of_ble_eq_true rfl) (dck_at da_J0_indexOf_7cf53 1 rfl)) (fun H locs Y => ?_)
  refine lv_if_eq (tgt := 23) X.1 X.2.1 (dck_at da_J0_indexOf_7cf53 2 rfl) rfl (fun c => ?_) (fun c => ?_)
  · have h := gI_pos h c
    refine lv_aload_n X.1 X.2.1 (dck_at da_J0_indexOf_7cf53 11 rfl) rfl (lv_at hl 0 rfl) ?_
    refine gr_getV2 X G Y wm_1632 (dck_at da_J0_indexOf_7cf53 12 rfl) ?_
    refine lv_iload_n X.1 X.2.1 (dck_at da_J0_indexOf_7cf53 13 rfl) rfl (lv_at hl 1 rfl) ?_
    refine lv_iload_n X.1 X.2.1 (dck_at da_J0_indexOf_7cf53 14 rfl) rfl (lv_at hl 2 rfl) ?_
    refine lv_aload_n X.1 X.2.1 (dck_at da_J0_indexOf_7cf53 15 rfl) rfl (lv_at hl 0 rfl) ?_
    obtain ⟨r2, s2, hc, h⟩ := gB2_some h
    refine gr_backi Y (gr_runW2 (as := []) (rest := [.int a2, .int a1, .ref (sa 4)]) X G Y (ok_c_String_length hc) cv_RJ0_505 ⟨Nat.le_of_ble_eq_true rfl, Nat.le_of_ble_eq_true rfl⟩ rfl hl.1 (Nat.le_of_ble_eq_true rfl) (dck_at da_J0_indexOf_7cf53 16 rfl)) (fun H locs Y => ?_)
    obtain ⟨r3, s3, hc, h⟩ := gB2_some h
    refine gr_backi Y (gr_runS (as := [.ref (sa 4), .int a1, .int a2, .int r2]) (rest := []) X G Y (ok_c_StringUTF16_indexOf hc) cs_RJ0_640 ⟨Nat.le_of_ble_eq_true rfl, Nat.le_of_ble_eq_true rfl⟩ rfl hl.1 (Nat.le_of_ble_eq_true rfl) (dck_at da_J0_indexOf_7cf53 17 rfl)) (fun H locs Y => ?_)
    exact gr_iretO X Y h hr rfl hlk (dck_at da_J0_indexOf_7cf53 18 rfl)
  · have h := gI_neg h c
    refine lv_aload_n X.1 X.2.1 (dck_at da_J0_indexOf_7cf53 3 rfl) rfl (lv_at hl 0 rfl) ?_
    refine gr_getV2 X G Y wm_1632 (dck_at da_J0_indexOf_7cf53 4 rfl) ?_
    refine lv_iload_n X.1 X.2.1 (dck_at da_J0_indexOf_7cf53 5 rfl) rfl (lv_at hl 1 rfl) ?_
    refine lv_iload_n X.1 X.2.1 (dck_at da_J0_indexOf_7cf53 6 rfl) rfl (lv_at hl 2 rfl) ?_
    refine lv_aload_n X.1 X.2.1 (dck_at da_J0_indexOf_7cf53 7 rfl) rfl (lv_at hl 0 rfl) ?_
    obtain ⟨r4, s4, hc, h⟩ := gB2_some h
    refine gr_backi Y (gr_runW2 (as := []) (rest := [.int a2, .int a1, .ref (sa 4)]) X G Y (ok_c_String_length hc) cv_RJ0_505 ⟨Nat.le_of_ble_eq_true rfl, Nat.le_of_ble_eq_true rfl⟩ rfl hl.1 (Nat.le_of_ble_eq_true rfl) (dck_at da_J0_indexOf_7cf53 8 rfl)) (fun H locs Y => ?_)
    obtain ⟨r5, s5, hc, h⟩ := gB2_some h
    refine gr_backi Y (gr_runS (as := [.ref (sa 4), .int a1, .int a2, .int r4]) (rest := []) X G Y (ok_c_StringLatin1_indexOf hc) cs_RJ0_637 ⟨Nat.le_of_ble_eq_true rfl, Nat.le_of_ble_eq_true rfl⟩ rfl hl.1 (Nat.le_of_ble_eq_true rfl) (dck_at da_J0_indexOf_7cf53 9 rfl)) (fun H locs Y => ?_)
    refine lv_goto (tgt := 36) X.1 X.2.1 (dck_at da_J0_indexOf_7cf53 10 rfl) rfl ?_
    exact gr_iretO X Y h hr rfl hlk (dck_at da_J0_indexOf_7cf53 18 rfl)
set_option maxRecDepth 100000 in
set_option maxHeartbeats 4000000 in
theorem ok_c_String_indexOf_0f7a4 {l : Launch} {D : va_G} {cy : Nat → ClassId} {ad sa : Nat → Nat} {A : Nat → Prop} {F : Nat} {a1 : Int32} {s0 : St} {ρ : Int32} {σ' : St} (h : c_String_indexOf_0f7a4 F a1 s0 = some (ρ, σ')) : gMi l shC D cy ad sa A yJ0_indexOf_0f7a4 cJ0_indexOf_0f7a4 2 (some .int) 6 [.ref (sa 2), .int a1] s0 ρ σ' := by
  refine gM_of (by decide) (Nat.le_of_ble_eq_true rfl) ?_
  intro p e s m args below meth c ls X G Y hr hlk hl
  have hl : lv_has ls 2 [(0, .ref (sa 2)), (1, .int a1)] := hl
  unfold c_String_indexOf_0f7a4 at h
  refine lv_aload_n X.1 X.2.1 (dck_at da_J0_indexOf_0f7a4 0 rfl) rfl (lv_at hl 0 rfl) ?_
  refine lv_iload_n X.1 X.2.1 (dck_at da_J0_indexOf_0f7a4 1 rfl) rfl (lv_at hl 1 rfl) ?_
  refine lv_iconst X.1 X.2.1 (dck_at da_J0_indexOf_0f7a4 2 rfl) ki_0 ?_
  obtain ⟨r1, s1, hc, h⟩ := gB2_some h
  refine gr_backi Y (gr_runW2 (as := [.int a1, .int (0 : Int32)]) (rest := []) X G Y (ok_c_String_indexOf_7cf53 hc) cv_RJ0_633 ⟨Nat.le_of_ble_eq_true rfl, Nat.le_of_ble_eq_true rfl⟩ rfl hl.1 (Nat.le_of_ble_eq_true rfl) (dck_at da_J0_indexOf_0f7a4 3 rfl)) (fun H locs Y => ?_)
  exact gr_iretO X Y h hr rfl hlk (dck_at da_J0_indexOf_0f7a4 4 rfl)
set_option maxRecDepth 100000 in
set_option maxHeartbeats 4000000 in
theorem ok_c_Tape_landFault {l : Launch} {D : va_G} {cy : Nat → ClassId} {ad sa : Nat → Nat} {A : Nat → Prop} {F : Nat}  {s0 : St} {ρ : Int32} {σ' : St} (h : c_Tape_landFault F s0 = some (ρ, σ')) : gMi l shC D cy ad sa A yX9_landFault cX9_landFault 6 (some .int) 7 [.ref (ad 74)] s0 ρ σ' := by
  refine gM_of (by decide) (Nat.le_of_ble_eq_true rfl) ?_
  intro p e s m args below meth c ls X G Y hr hlk hl
  have hl : lv_has ls 6 [(0, .ref (ad 74))] := hl
  have b9 : ∀ n : Nat, ∀ (x1 : Int32) (x2 : Int32) (x3 : Int32) (x4 : Int32) (s0 : St) (H : Heap) (locs : List Loc) (ls : Array Slot), c_Tape_landFault_L9 F  n x1 x2 x3 x4 s0 = some (ρ, σ') → gY shC D cy ad A s0 s H locs → lv_has ls 6 [(0, .ref (ad 74)), (1, .int x1), (2, .int x2), (3, .int x3), (4, .int x4)] → W p l e (grm 7) s m args below meth c H locs 0 0 (MQ below (va_Qi (fun (q : Int32) (_ : Unit) => q = ρ) (fun _ t => va_P D vwCl (gWl shC cy ad σ') t.heap) A) args s 0 0 A) (F0 m 9 ls []) := by
    intro n
    induction n with
    | zero => intro x1 x2 x3 x4 s0 H locs ls h Y hl; exact (gnone h).elim
    | succ n hk9 =>
      have e : c_Tape_landFault_L9 F  (n + 1) = c_Tape_landFault_L9b F  (c_Tape_landFault_L9 F  n) := rfl
      rw [e]; clear e
      generalize c_Tape_landFault_L9 F  n = k9 at hk9 ⊢
      have b138 : ∀ (x1 : Int32) (x2 : Int32) (x3 : Int32) (x4 : Int32) (s0 : St) (H : Heap) (locs : List Loc) (ls : Array Slot), c_Tape_landFault_J138 F k9 x1 x2 x3 x4 s0 = some (ρ, σ') → gY shC D cy ad A s0 s H locs → lv_has ls 6 [(0, .ref (ad 74)), (1, .int x1), (2, .int x2), (3, .int x3), (4, .int x4)] → W p l e (grm 7) s m args below meth c H locs 0 0 (MQ below (va_Qi (fun (q : Int32) (_ : Unit) => q = ρ) (fun _ t => va_P D vwCl (gWl shC cy ad σ') t.heap) A) args s 0 0 A) (F0 m 138 ls []) := by
        intro x1 x2 x3 x4 s0 H locs ls h Y hl
        unfold c_Tape_landFault_J138 at h
        refine lv_iinc (v := x4 + (1 : Int32)) (lv' := [(4, .int (x4 + (1 : Int32))), (0, .ref (ad 74)), (1, .int x1), (2, .int x2), (3, .int x3)]) X.1 X.2.1 (dck_at da_X9_landFault 77 rfl) hl (k := 4) rfl (congrArg (HAdd.hAdd _) ki_1) (by decide) rfl (fun ls hl => ?_)
        refine lv_goto (tgt := 9) X.1 X.2.1 (dck_at da_X9_landFault 78 rfl) rfl ?_
        exact hk9 x1 x2 x3 (x4 + (1 : Int32)) s0 _ _ _ h Y (lv_sub hl [1, 2, 3, 4, 0] rfl)
      have b103 : ∀ (x1 : Int32) (x2 : Int32) (x4 : Int32) (s0 : St) (H : Heap) (locs : List Loc) (ls : Array Slot), c_Tape_landFault_J103 F k9 x1 x2 x4 s0 = some (ρ, σ') → gY shC D cy ad A s0 s H locs → lv_has ls 6 [(0, .ref (ad 74)), (1, .int x1), (2, .int x2), (4, .int x4)] → W p l e (grm 7) s m args below meth c H locs 0 0 (MQ below (va_Qi (fun (q : Int32) (_ : Unit) => q = ρ) (fun _ t => va_P D vwCl (gWl shC cy ad σ') t.heap) A) args s 0 0 A) (F0 m 103 ls []) := by
        intro x1 x2 x4 s0 H locs ls h Y hl
        unfold c_Tape_landFault_J103 at h
        refine lv_aload_n X.1 X.2.1 (dck_at da_X9_landFault 58 rfl) rfl (lv_at hl 0 rfl) ?_
        refine gr_getR X G Y fk_RX9_11 clC_74 rfl (dck_at da_X9_landFault 59 rfl) ?_
        refine lv_iload X.1 X.2.1 (dck_at da_X9_landFault 60 rfl) (lv_at hl 3 rfl) ?_
        obtain ⟨hin, h⟩ := gI_if h
        refine gr_cald X G Y clC_75 hin (dck_at da_X9_landFault 61 rfl) ?_
        refine lv_bipush X.1 X.2.1 (dck_at da_X9_landFault 62 rfl) kb_47 ?_
        refine lv_icmp_ne (tgt := 135) X.1 X.2.1 (dck_at da_X9_landFault 63 rfl) rfl (fun c => ?_) (fun c => ?_)
        · have h := gI_neg h c
          refine lv_iload X.1 X.2.1 (dck_at da_X9_landFault 75 rfl) (lv_at hl 3 rfl) ?_
          exact gr_iretO X Y h hr rfl hlk (dck_at da_X9_landFault 76 rfl)
        · have h := gI_pos h c
          refine lv_iload_n X.1 X.2.1 (dck_at da_X9_landFault 64 rfl) rfl (lv_at hl 2 rfl) ?_
          refine lv_if_le (tgt := 135) X.1 X.2.1 (dck_at da_X9_landFault 65 rfl) rfl (fun c => ?_) (fun c => ?_)
          · have h := gI_pos h c
            refine lv_iload X.1 X.2.1 (dck_at da_X9_landFault 75 rfl) (lv_at hl 3 rfl) ?_
            exact gr_iretO X Y h hr rfl hlk (dck_at da_X9_landFault 76 rfl)
          · have h := gI_neg h c
            refine lv_iload_n X.1 X.2.1 (dck_at da_X9_landFault 66 rfl) rfl (lv_at hl 1 rfl) ?_
            refine lv_bipush X.1 X.2.1 (dck_at da_X9_landFault 67 rfl) kb_11 ?_
            refine lv_icmp_ge (tgt := 135) X.1 X.2.1 (dck_at da_X9_landFault 68 rfl) rfl (fun c => ?_) (fun c => ?_)
            · have h := gI_pos h c
              refine lv_iload X.1 X.2.1 (dck_at da_X9_landFault 75 rfl) (lv_at hl 3 rfl) ?_
              exact gr_iretO X Y h hr rfl hlk (dck_at da_X9_landFault 76 rfl)
            · have h := gI_neg h c
              refine lv_iinc (v := x1 + (1 : Int32)) (lv' := [(1, .int (x1 + (1 : Int32))), (0, .ref (ad 74)), (2, .int x2), (4, .int x4)]) X.1 X.2.1 (dck_at da_X9_landFault 69 rfl) hl (k := 1) rfl (congrArg (HAdd.hAdd _) ki_1) (by decide) rfl (fun ls hl => ?_)
              refine lv_iconst X.1 X.2.1 (dck_at da_X9_landFault 70 rfl) ki_0 ?_
              refine lv_istore_n (lv' := [(2, .int (0 : Int32)), (1, .int (x1 + (1 : Int32))), (0, .ref (ad 74)), (4, .int x4)]) X.1 X.2.1 (dck_at da_X9_landFault 71 rfl) rfl hl (by decide) rfl (fun ls hl => ?_)
              refine lv_iconst X.1 X.2.1 (dck_at da_X9_landFault 72 rfl) ki_0 ?_
              refine lv_istore_n (lv' := [(3, .int (0 : Int32)), (2, .int (0 : Int32)), (1, .int (x1 + (1 : Int32))), (0, .ref (ad 74)), (4, .int x4)]) X.1 X.2.1 (dck_at da_X9_landFault 73 rfl) rfl hl (by decide) rfl (fun ls hl => ?_)
              refine lv_goto (tgt := 138) X.1 X.2.1 (dck_at da_X9_landFault 74 rfl) rfl ?_
              exact b138 (x1 + (1 : Int32)) (0 : Int32) (0 : Int32) x4 s0 _ _ _ h Y (lv_sub hl [3, 2, 1, 0, 4] rfl)
      have b70 : ∀ (x1 : Int32) (x2 : Int32) (x3 : Int32) (x4 : Int32) (x5 : Int32) (s0 : St) (H : Heap) (locs : List Loc) (ls : Array Slot), c_Tape_landFault_J70 F k9 x1 x2 x3 x4 x5 s0 = some (ρ, σ') → gY shC D cy ad A s0 s H locs → lv_has ls 6 [(0, .ref (ad 74)), (1, .int x1), (2, .int x2), (3, .int x3), (4, .int x4), (5, .int x5)] → W p l e (grm 7) s m args below meth c H locs 0 0 (MQ below (va_Qi (fun (q : Int32) (_ : Unit) => q = ρ) (fun _ t => va_P D vwCl (gWl shC cy ad σ') t.heap) A) args s 0 0 A) (F0 m 70 ls []) := by
        intro x1 x2 x3 x4 x5 s0 H locs ls h Y hl
        unfold c_Tape_landFault_J70 at h
        refine lv_iload_n X.1 X.2.1 (dck_at da_X9_landFault 37 rfl) rfl (lv_at hl 3 rfl) ?_
        refine lv_if_eq (tgt := 103) X.1 X.2.1 (dck_at da_X9_landFault 38 rfl) rfl (fun c => ?_) (fun c => ?_)
        · have h := gI_pos h c
          exact b103 x1 x2 x4 s0 _ _ _ h Y (lv_sub hl [0, 1, 2, 4] rfl)
        · have h := gI_neg h c
          refine lv_iload X.1 X.2.1 (dck_at da_X9_landFault 39 rfl) (lv_at hl 5 rfl) ?_
          refine lv_iconst X.1 X.2.1 (dck_at da_X9_landFault 40 rfl) ki_1 ?_
          refine lv_icmp_lt (tgt := 103) X.1 X.2.1 (dck_at da_X9_landFault 41 rfl) rfl (fun c => ?_) (fun c => ?_)
          · have h := gI_pos h c
            exact b103 x1 x2 x4 s0 _ _ _ h Y (lv_sub hl [0, 1, 2, 4] rfl)
          · have h := gI_neg h c
            refine lv_iload_n X.1 X.2.1 (dck_at da_X9_landFault 42 rfl) rfl (lv_at hl 2 rfl) ?_
            refine lv_iload X.1 X.2.1 (dck_at da_X9_landFault 43 rfl) (lv_at hl 5 rfl) ?_
            refine lv_iadd X.1 X.2.1 (dck_at da_X9_landFault 44 rfl) ?_
            refine lv_iconst X.1 X.2.1 (dck_at da_X9_landFault 45 rfl) ki_1 ?_
            refine lv_isub X.1 X.2.1 (dck_at da_X9_landFault 46 rfl) ?_
            refine lv_bipush X.1 X.2.1 (dck_at da_X9_landFault 47 rfl) kb_12 ?_
            refine lv_icmp_gt (tgt := 103) X.1 X.2.1 (dck_at da_X9_landFault 48 rfl) rfl (fun c => ?_) (fun c => ?_)
            · have h := gI_pos h c
              exact b103 x1 x2 x4 s0 _ _ _ h Y (lv_sub hl [0, 1, 2, 4] rfl)
            · have h := gI_neg h c
              refine lv_iload_n X.1 X.2.1 (dck_at da_X9_landFault 49 rfl) rfl (lv_at hl 2 rfl) ?_
              refine lv_iload X.1 X.2.1 (dck_at da_X9_landFault 50 rfl) (lv_at hl 5 rfl) ?_
              refine lv_iconst X.1 X.2.1 (dck_at da_X9_landFault 51 rfl) ki_1 ?_
              refine lv_isub X.1 X.2.1 (dck_at da_X9_landFault 52 rfl) ?_
              refine lv_iadd X.1 X.2.1 (dck_at da_X9_landFault 53 rfl) ?_
              refine lv_istore_n (lv' := [(2, .int (x2 + (x5 - (1 : Int32)))), (0, .ref (ad 74)), (1, .int x1), (3, .int x3), (4, .int x4), (5, .int x5)]) X.1 X.2.1 (dck_at da_X9_landFault 54 rfl) rfl hl (by decide) rfl (fun ls hl => ?_)
              refine lv_iconst X.1 X.2.1 (dck_at da_X9_landFault 55 rfl) ki_0 ?_
              refine lv_istore_n (lv' := [(3, .int (0 : Int32)), (2, .int (x2 + (x5 - (1 : Int32)))), (0, .ref (ad 74)), (1, .int x1), (4, .int x4), (5, .int x5)]) X.1 X.2.1 (dck_at da_X9_landFault 56 rfl) rfl hl (by decide) rfl (fun ls hl => ?_)
              refine lv_goto (tgt := 138) X.1 X.2.1 (dck_at da_X9_landFault 57 rfl) rfl ?_
              exact b138 x1 (x2 + (x5 - (1 : Int32))) (0 : Int32) x4 s0 _ _ _ h Y (lv_sub hl [2, 3, 1, 0, 4] rfl)
      intro x1 x2 x3 x4 s0 H locs ls h Y hl
      unfold c_Tape_landFault_L9b at h
      refine lv_iload X.1 X.2.1 (dck_at da_X9_landFault 8 rfl) (lv_at hl 4 rfl) ?_
      refine lv_aload_n X.1 X.2.1 (dck_at da_X9_landFault 9 rfl) rfl (lv_at hl 0 rfl) ?_
      refine gr_getI X G Y fk_RX9_15 clC_74 rfl (dck_at da_X9_landFault 10 rfl) ?_
      refine lv_icmp_ge (tgt := 144) X.1 X.2.1 (dck_at da_X9_landFault 11 rfl) rfl (fun c => ?_) (fun c => ?_)
      · have h := gI_pos h c
        refine lv_iload_n X.1 X.2.1 (dck_at da_X9_landFault 79 rfl) rfl (lv_at hl 2 rfl) ?_
        refine lv_if_le (tgt := 152) X.1 X.2.1 (dck_at da_X9_landFault 80 rfl) rfl (fun c => ?_) (fun c => ?_)
        · have h := gI_pos h c
          refine lv_aload_n X.1 X.2.1 (dck_at da_X9_landFault 83 rfl) rfl (lv_at hl 0 rfl) ?_
          refine gr_getI X G Y fk_RX9_15 clC_74 rfl (dck_at da_X9_landFault 84 rfl) ?_
          exact gr_iretO X Y h hr rfl hlk (dck_at da_X9_landFault 85 rfl)
        · have h := gI_neg h c
          refine lv_iconst X.1 X.2.1 (dck_at da_X9_landFault 81 rfl) ki_m1 ?_
          refine lv_goto (tgt := 156) X.1 X.2.1 (dck_at da_X9_landFault 82 rfl) rfl ?_
          exact gr_iretO X Y h hr rfl hlk (dck_at da_X9_landFault 85 rfl)
      · have h := gI_neg h c
        refine lv_aload_n X.1 X.2.1 (dck_at da_X9_landFault 12 rfl) rfl (lv_at hl 0 rfl) ?_
        refine gr_getR X G Y fk_RX9_11 clC_74 rfl (dck_at da_X9_landFault 13 rfl) ?_
        refine lv_iload X.1 X.2.1 (dck_at da_X9_landFault 14 rfl) (lv_at hl 4 rfl) ?_
        obtain ⟨hin, h⟩ := gI_if h
        refine gr_cald X G Y clC_75 hin (dck_at da_X9_landFault 15 rfl) ?_
        refine lv_bipush X.1 X.2.1 (dck_at da_X9_landFault 16 rfl) kb_32 ?_
        refine lv_icmp_ne (tgt := 33) X.1 X.2.1 (dck_at da_X9_landFault 17 rfl) rfl (fun c => ?_) (fun c => ?_)
        · have h := gI_neg h c
          refine lv_aload_n X.1 X.2.1 (dck_at da_X9_landFault 19 rfl) rfl (lv_at hl 0 rfl) ?_
          refine lv_iload X.1 X.2.1 (dck_at da_X9_landFault 20 rfl) (lv_at hl 4 rfl) ?_
          obtain ⟨r1, s1, hc, h⟩ := gB2_some h
          refine gr_backi Y (gr_runV (as := [.int x4]) (rest := []) X G Y (ok_c_Tape_digitAt hc) cv_RX9_42 clC_74 ⟨Nat.le_of_ble_eq_true rfl, Nat.le_of_ble_eq_true rfl⟩ rfl hl.1 (Nat.le_of_ble_eq_true rfl) (dck_at da_X9_landFault 21 rfl)) (fun H locs Y => ?_)
          refine lv_istore (lv' := [(5, .int r1), (0, .ref (ad 74)), (1, .int x1), (2, .int x2), (3, .int x3), (4, .int x4)]) X.1 X.2.1 (dck_at da_X9_landFault 22 rfl) hl (by decide) rfl (fun ls hl => ?_)
          refine gr_ldcS2 X G Y (dck_at da_X9_landFault 23 rfl) ?_
          refine lv_aload_n X.1 X.2.1 (dck_at da_X9_landFault 24 rfl) rfl (lv_at hl 1 rfl) ?_
          refine gr_getR X G Y fk_RX9_11 clC_74 rfl (dck_at da_X9_landFault 25 rfl) ?_
          refine lv_iload X.1 X.2.1 (dck_at da_X9_landFault 26 rfl) (lv_at hl 5 rfl) ?_
          obtain ⟨hin, h⟩ := gI_if h
          refine gr_cald X G Y clC_75 hin (dck_at da_X9_landFault 27 rfl) ?_
          obtain ⟨r2, s2, hc, h⟩ := gB2_some h
          refine gr_backi Y (gr_runW2 (as := [.int (s1.1 75 (x4).toNatClampNeg)]) (rest := []) X G Y (ok_c_String_indexOf_0f7a4 hc) cv_RX9_48 ⟨Nat.le_of_ble_eq_true rfl, Nat.le_of_ble_eq_true rfl⟩ rfl hl.1 (Nat.le_of_ble_eq_true rfl) (dck_at da_X9_landFault 28 rfl)) (fun H locs Y => ?_)
          refine lv_if_lt (tgt := 70) X.1 X.2.1 (dck_at da_X9_landFault 29 rfl) rfl (fun c => ?_) (fun c => ?_)
          · have h := gI_pos h c
            exact b70 x1 x2 x3 x4 r1 s2 _ _ _ h Y (lv_sub hl [1, 2, 3, 4, 5, 0] rfl)
          · have h := gI_neg h c
            refine lv_iload_n X.1 X.2.1 (dck_at da_X9_landFault 30 rfl) rfl (lv_at hl 3 rfl) ?_
            refine lv_bipush X.1 X.2.1 (dck_at da_X9_landFault 31 rfl) kb_12 ?_
            refine lv_icmp_ge (tgt := 70) X.1 X.2.1 (dck_at da_X9_landFault 32 rfl) rfl (fun c => ?_) (fun c => ?_)
            · have h := gI_pos h c
              exact b70 x1 x2 x3 x4 r1 s2 _ _ _ h Y (lv_sub hl [1, 2, 3, 4, 5, 0] rfl)
            · have h := gI_neg h c
              refine lv_iinc (v := x2 + (1 : Int32)) (lv' := [(2, .int (x2 + (1 : Int32))), (5, .int r1), (0, .ref (ad 74)), (1, .int x1), (3, .int x3), (4, .int x4)]) X.1 X.2.1 (dck_at da_X9_landFault 33 rfl) hl (k := 3) rfl (congrArg (HAdd.hAdd _) ki_1) (by decide) rfl (fun ls hl => ?_)
              refine lv_iconst X.1 X.2.1 (dck_at da_X9_landFault 34 rfl) ki_1 ?_
              refine lv_istore_n (lv' := [(3, .int (1 : Int32)), (2, .int (x2 + (1 : Int32))), (5, .int r1), (0, .ref (ad 74)), (1, .int x1), (4, .int x4)]) X.1 X.2.1 (dck_at da_X9_landFault 35 rfl) rfl hl (by decide) rfl (fun ls hl => ?_)
              refine lv_goto (tgt := 138) X.1 X.2.1 (dck_at da_X9_landFault 36 rfl) rfl ?_
              exact b138 x1 (x2 + (1 : Int32)) (1 : Int32) x4 s2 _ _ _ h Y (lv_sub hl [3, 4, 1, 0, 5] rfl)
        · have h := gI_pos h c
          refine lv_goto (tgt := 138) X.1 X.2.1 (dck_at da_X9_landFault 18 rfl) rfl ?_
          exact b138 x1 x2 x3 x4 s0 _ _ _ h Y (lv_sub hl [0, 1, 2, 3, 4] rfl)
  unfold c_Tape_landFault at h
  refine lv_iconst X.1 X.2.1 (dck_at da_X9_landFault 0 rfl) ki_0 ?_
  refine lv_istore_n (lv' := [(1, .int (0 : Int32)), (0, .ref (ad 74))]) X.1 X.2.1 (dck_at da_X9_landFault 1 rfl) rfl hl (by decide) rfl (fun ls hl => ?_)
  refine lv_iconst X.1 X.2.1 (dck_at da_X9_landFault 2 rfl) ki_0 ?_
  refine lv_istore_n (lv' := [(2, .int (0 : Int32)), (1, .int (0 : Int32)), (0, .ref (ad 74))]) X.1 X.2.1 (dck_at da_X9_landFault 3 rfl) rfl hl (by decide) rfl (fun ls hl => ?_)
  refine lv_iconst X.1 X.2.1 (dck_at da_X9_landFault 4 rfl) ki_0 ?_
  refine lv_istore_n (lv' := [(3, .int (0 : Int32)), (2, .int (0 : Int32)), (1, .int (0 : Int32)), (0, .ref (ad 74))]) X.1 X.2.1 (dck_at da_X9_landFault 5 rfl) rfl hl (by decide) rfl (fun ls hl => ?_)
  refine lv_iconst X.1 X.2.1 (dck_at da_X9_landFault 6 rfl) ki_0 ?_
  refine lv_istore (lv' := [(4, .int (0 : Int32)), (3, .int (0 : Int32)), (2, .int (0 : Int32)), (1, .int (0 : Int32)), (0, .ref (ad 74))]) X.1 X.2.1 (dck_at da_X9_landFault 7 rfl) hl (by decide) rfl (fun ls hl => ?_)
  exact b9 F (0 : Int32) (0 : Int32) (0 : Int32) (0 : Int32) s0 _ _ _ h Y (lv_sub hl [4, 3, 2, 1, 0] rfl)
set_option maxRecDepth 100000 in
set_option maxHeartbeats 4000000 in
theorem ok_c_Land_lay {l : Launch} {D : va_G} {cy : Nat → ClassId} {ad sa : Nat → Nat} {A : Nat → Prop} {F : Nat} {a1 : Int32} {a2 : Int32} {s0 : St} {σ' : St} (h : c_Land_lay F a1 a2 s0 = some σ') : gMv l shC D cy ad sa A yX3_lay cX3_lay 3 none 1 [.ref (ad 2), .int a1, .int a2] s0 σ' := by
  refine gM_of (by decide) (Nat.le_of_ble_eq_true rfl) ?_
  intro p e s m args below meth c ls X G Y hr hlk hl
  have hl : lv_has ls 3 [(0, .ref (ad 2)), (1, .int a1), (2, .int a2)] := hl
  unfold c_Land_lay at h
  refine lv_iload_n X.1 X.2.1 (dck_at da_X3_lay 0 rfl) rfl (lv_at hl 1 rfl) ?_
  refine lv_if_lt (tgt := 11) X.1 X.2.1 (dck_at da_X3_lay 1 rfl) rfl (fun c => ?_) (fun c => ?_)
  · have h := gI_pos h c
    exact gr_vretO X Y h hr hlk (dck_at da_X3_lay 5 rfl)
  · have h := gI_neg h c
    refine lv_iload_n X.1 X.2.1 (dck_at da_X3_lay 2 rfl) rfl (lv_at hl 1 rfl) ?_
    refine lv_sipush X.1 X.2.1 (dck_at da_X3_lay 3 rfl) ks_144 ?_
    refine lv_icmp_lt (tgt := 12) X.1 X.2.1 (dck_at da_X3_lay 4 rfl) rfl (fun c => ?_) (fun c => ?_)
    · have h := gI_pos h c
      refine lv_aload_n X.1 X.2.1 (dck_at da_X3_lay 6 rfl) rfl (lv_at hl 0 rfl) ?_
      refine gr_getR X G Y fk_RX3_9 clC_2 rfl (dck_at da_X3_lay 7 rfl) ?_
      refine lv_iload_n X.1 X.2.1 (dck_at da_X3_lay 8 rfl) rfl (lv_at hl 1 rfl) ?_
      refine lv_iload_n X.1 X.2.1 (dck_at da_X3_lay 9 rfl) rfl (lv_at hl 2 rfl) ?_
      obtain ⟨hin, h⟩ := gI_if h
      refine gr_iast X G Y clC_3 hin (dck_at da_X3_lay 10 rfl) (fun H locs Y => ?_)
      refine lv_aload_n X.1 X.2.1 (dck_at da_X3_lay 11 rfl) rfl (lv_at hl 0 rfl) ?_
      refine gr_getR X G Y fk_RX3_15 clC_2 rfl (dck_at da_X3_lay 12 rfl) ?_
      refine lv_iload_n X.1 X.2.1 (dck_at da_X3_lay 13 rfl) rfl (lv_at hl 1 rfl) ?_
      refine lv_iconst X.1 X.2.1 (dck_at da_X3_lay 14 rfl) ki_0 ?_
      obtain ⟨hin, h⟩ := gI_if h
      refine gr_iast X G Y clC_4 hin (dck_at da_X3_lay 15 rfl) (fun H locs Y => ?_)
      exact gr_vretO X Y h hr hlk (dck_at da_X3_lay 16 rfl)
    · have h := gI_neg h c
      exact gr_vretO X Y h hr hlk (dck_at da_X3_lay 5 rfl)
set_option maxRecDepth 100000 in
set_option maxHeartbeats 4000000 in
theorem ok_c_Tape_layOut {l : Launch} {D : va_G} {cy : Nat → ClassId} {ad sa : Nat → Nat} {A : Nat → Prop} {F : Nat}  {s0 : St} {ρ : Int32} {σ' : St} (h : c_Tape_layOut F s0 = some (ρ, σ')) : gMi l shC D cy ad sa A yX9_layOut cX9_layOut 10 (some .int) 7 [.ref (ad 74), .ref (ad 2)] s0 ρ σ' := by
  refine gM_of (by decide) (Nat.le_of_ble_eq_true rfl) ?_
  intro p e s m args below meth c ls X G Y hr hlk hl
  have hl : lv_has ls 10 [(0, .ref (ad 74)), (1, .ref (ad 2))] := hl
  have b13 : ∀ n : Nat, ∀ (x2 : Int32) (x3 : Int32) (x4 : Int32) (x5 : Int32) (x6 : Int32) (s0 : St) (H : Heap) (locs : List Loc) (ls : Array Slot), c_Tape_layOut_L13 F  n x2 x3 x4 x5 x6 s0 = some (ρ, σ') → gY shC D cy ad A s0 s H locs → lv_has ls 10 [(0, .ref (ad 74)), (1, .ref (ad 2)), (2, .int x2), (3, .int x3), (4, .int x4), (5, .int x5), (6, .int x6)] → W p l e (grm 7) s m args below meth c H locs 0 0 (MQ below (va_Qi (fun (q : Int32) (_ : Unit) => q = ρ) (fun _ t => va_P D vwCl (gWl shC cy ad σ') t.heap) A) args s 0 0 A) (F0 m 13 ls []) := by
    intro n
    induction n with
    | zero => intro x2 x3 x4 x5 x6 s0 H locs ls h Y hl; exact (gnone h).elim
    | succ n hk13 =>
      have e : c_Tape_layOut_L13 F  (n + 1) = c_Tape_layOut_L13b F  (c_Tape_layOut_L13 F  n) := rfl
      rw [e]; clear e
      generalize c_Tape_layOut_L13 F  n = k13 at hk13 ⊢
      have b137 : ∀ (x2 : Int32) (x3 : Int32) (x4 : Int32) (x5 : Int32) (x6 : Int32) (s0 : St) (H : Heap) (locs : List Loc) (ls : Array Slot), c_Tape_layOut_J137 F k13 x2 x3 x4 x5 x6 s0 = some (ρ, σ') → gY shC D cy ad A s0 s H locs → lv_has ls 10 [(0, .ref (ad 74)), (1, .ref (ad 2)), (2, .int x2), (3, .int x3), (4, .int x4), (5, .int x5), (6, .int x6)] → W p l e (grm 7) s m args below meth c H locs 0 0 (MQ below (va_Qi (fun (q : Int32) (_ : Unit) => q = ρ) (fun _ t => va_P D vwCl (gWl shC cy ad σ') t.heap) A) args s 0 0 A) (F0 m 137 ls []) := by
        intro x2 x3 x4 x5 x6 s0 H locs ls h Y hl
        unfold c_Tape_layOut_J137 at h
        refine lv_iinc (v := x6 + (1 : Int32)) (lv' := [(6, .int (x6 + (1 : Int32))), (0, .ref (ad 74)), (1, .ref (ad 2)), (2, .int x2), (3, .int x3), (4, .int x4), (5, .int x5)]) X.1 X.2.1 (dck_at da_X9_layOut 72 rfl) hl (k := 6) rfl (congrArg (HAdd.hAdd _) ki_1) (by decide) rfl (fun ls hl => ?_)
        refine lv_goto (tgt := 13) X.1 X.2.1 (dck_at da_X9_layOut 73 rfl) rfl ?_
        exact hk13 x2 x3 x4 x5 (x6 + (1 : Int32)) s0 _ _ _ h Y (lv_sub hl [1, 2, 3, 4, 5, 6, 0] rfl)
      have b102 : ∀ n : Nat, ∀ (x2 : Int32) (x3 : Int32) (x4 : Int32) (x5 : Int32) (x6 : Int32) (x8 : Int32) (x9 : Int32) (s0 : St) (H : Heap) (locs : List Loc) (ls : Array Slot), c_Tape_layOut_L102 F k13 n x2 x3 x4 x5 x6 x8 x9 s0 = some (ρ, σ') → gY shC D cy ad A s0 s H locs → lv_has ls 10 [(0, .ref (ad 74)), (1, .ref (ad 2)), (2, .int x2), (3, .int x3), (4, .int x4), (5, .int x5), (6, .int x6), (8, .int x8), (9, .int x9)] → W p l e (grm 7) s m args below meth c H locs 0 0 (MQ below (va_Qi (fun (q : Int32) (_ : Unit) => q = ρ) (fun _ t => va_P D vwCl (gWl shC cy ad σ') t.heap) A) args s 0 0 A) (F0 m 102 ls []) := by
        intro n
        induction n with
        | zero => intro x2 x3 x4 x5 x6 x8 x9 s0 H locs ls h Y hl; exact (gnone h).elim
        | succ n hk102 =>
          have e : c_Tape_layOut_L102 F k13 (n + 1) = c_Tape_layOut_L102b F k13 (c_Tape_layOut_L102 F k13 n) := rfl
          rw [e]; clear e
          generalize c_Tape_layOut_L102 F k13 n = k102 at hk102 ⊢
          intro x2 x3 x4 x5 x6 x8 x9 s0 H locs ls h Y hl
          unfold c_Tape_layOut_L102b at h
          refine lv_iload X.1 X.2.1 (dck_at da_X9_layOut 54 rfl) (lv_at hl 8 rfl) ?_
          refine lv_iload X.1 X.2.1 (dck_at da_X9_layOut 55 rfl) (lv_at hl 7 rfl) ?_
          refine lv_icmp_ge (tgt := 130) X.1 X.2.1 (dck_at da_X9_layOut 56 rfl) rfl (fun c => ?_) (fun c => ?_)
          · have h := gI_pos h c
            refine lv_iload X.1 X.2.1 (dck_at da_X9_layOut 68 rfl) (lv_at hl 5 rfl) ?_
            refine lv_iload X.1 X.2.1 (dck_at da_X9_layOut 69 rfl) (lv_at hl 7 rfl) ?_
            refine lv_iadd X.1 X.2.1 (dck_at da_X9_layOut 70 rfl) ?_
            refine lv_istore (lv' := [(5, .int (x5 + x8)), (0, .ref (ad 74)), (1, .ref (ad 2)), (2, .int x2), (3, .int x3), (4, .int x4), (6, .int x6), (8, .int x8), (9, .int x9)]) X.1 X.2.1 (dck_at da_X9_layOut 71 rfl) hl (by decide) rfl (fun ls hl => ?_)
            exact b137 x2 x3 x4 (x5 + x8) x6 s0 _ _ _ h Y (lv_sub hl [1, 2, 3, 4, 5, 0, 6] rfl)
          · have h := gI_neg h c
            refine lv_aload_n X.1 X.2.1 (dck_at da_X9_layOut 57 rfl) rfl (lv_at hl 1 rfl) ?_
            refine lv_iload_n X.1 X.2.1 (dck_at da_X9_layOut 58 rfl) rfl (lv_at hl 2 rfl) ?_
            refine lv_bipush X.1 X.2.1 (dck_at da_X9_layOut 59 rfl) kb_12 ?_
            refine lv_imul X.1 X.2.1 (dck_at da_X9_layOut 60 rfl) ?_
            refine lv_iload_n X.1 X.2.1 (dck_at da_X9_layOut 61 rfl) rfl (lv_at hl 3 rfl) ?_
            refine lv_iinc (v := x3 + (1 : Int32)) (lv' := [(3, .int (x3 + (1 : Int32))), (0, .ref (ad 74)), (1, .ref (ad 2)), (2, .int x2), (4, .int x4), (5, .int x5), (6, .int x6), (8, .int x8), (9, .int x9)]) X.1 X.2.1 (dck_at da_X9_layOut 62 rfl) hl (k := 3) rfl (congrArg (HAdd.hAdd _) ki_1) (by decide) rfl (fun ls hl => ?_)
            refine lv_iadd X.1 X.2.1 (dck_at da_X9_layOut 63 rfl) ?_
            refine lv_iload X.1 X.2.1 (dck_at da_X9_layOut 64 rfl) (lv_at hl 4 rfl) ?_
            obtain ⟨s1, hc, h⟩ := gB_some h
            refine gr_backv Y (gr_runV (as := [.int ((x2 * (12 : Int32)) + x3), .int x4]) (rest := []) X G Y (ok_c_Land_lay hc) cv_RX9_53 clC_2 ⟨Nat.le_of_ble_eq_true rfl, Nat.le_of_ble_eq_true rfl⟩ rfl hl.1 (Nat.le_of_ble_eq_true rfl) (dck_at da_X9_layOut 65 rfl)) (fun H locs Y => ?_)
            refine lv_iinc (v := x9 + (1 : Int32)) (lv' := [(9, .int (x9 + (1 : Int32))), (3, .int (x3 + (1 : Int32))), (0, .ref (ad 74)), (1, .ref (ad 2)), (2, .int x2), (4, .int x4), (5, .int x5), (6, .int x6), (8, .int x8)]) X.1 X.2.1 (dck_at da_X9_layOut 66 rfl) hl (k := 8) rfl (congrArg (HAdd.hAdd _) ki_1) (by decide) rfl (fun ls hl => ?_)
            refine lv_goto (tgt := 102) X.1 X.2.1 (dck_at da_X9_layOut 67 rfl) rfl ?_
            exact hk102 x2 (x3 + (1 : Int32)) x4 x5 x6 x8 (x9 + (1 : Int32)) s1 _ _ _ h Y (lv_sub hl [2, 3, 4, 1, 5, 6, 7, 8, 0] rfl)
      have b99 : ∀ (x2 : Int32) (x3 : Int32) (x4 : Int32) (x5 : Int32) (x6 : Int32) (x8 : Int32) (s0 : St) (H : Heap) (locs : List Loc) (ls : Array Slot), c_Tape_layOut_J99 F k13 x2 x3 x4 x5 x6 x8 s0 = some (ρ, σ') → gY shC D cy ad A s0 s H locs → lv_has ls 10 [(0, .ref (ad 74)), (1, .ref (ad 2)), (2, .int x2), (3, .int x3), (4, .int x4), (5, .int x5), (6, .int x6), (8, .int x8)] → W p l e (grm 7) s m args below meth c H locs 0 0 (MQ below (va_Qi (fun (q : Int32) (_ : Unit) => q = ρ) (fun _ t => va_P D vwCl (gWl shC cy ad σ') t.heap) A) args s 0 0 A) (F0 m 99 ls []) := by
        intro x2 x3 x4 x5 x6 x8 s0 H locs ls h Y hl
        unfold c_Tape_layOut_J99 at h
        refine lv_iconst X.1 X.2.1 (dck_at da_X9_layOut 52 rfl) ki_0 ?_
        refine lv_istore (lv' := [(9, .int (0 : Int32)), (0, .ref (ad 74)), (1, .ref (ad 2)), (2, .int x2), (3, .int x3), (4, .int x4), (5, .int x5), (6, .int x6), (8, .int x8)]) X.1 X.2.1 (dck_at da_X9_layOut 53 rfl) hl (by decide) rfl (fun ls hl => ?_)
        exact b102 F x2 x3 x4 x5 x6 x8 (0 : Int32) s0 _ _ _ h Y (lv_sub hl [1, 2, 3, 4, 5, 6, 7, 8, 0] rfl)
      have b78 : ∀ (x2 : Int32) (x3 : Int32) (x4 : Int32) (x5 : Int32) (x6 : Int32) (x7 : Int32) (y0 : Int32) (s0 : St) (H : Heap) (locs : List Loc) (ls : Array Slot), c_Tape_layOut_J78 F k13 x2 x3 x4 x5 x6 x7 y0 s0 = some (ρ, σ') → gY shC D cy ad A s0 s H locs → lv_has ls 10 [(0, .ref (ad 74)), (1, .ref (ad 2)), (2, .int x2), (3, .int x3), (4, .int x4), (5, .int x5), (6, .int x6), (7, .int x7)] → W p l e (grm 7) s m args below meth c H locs 0 0 (MQ below (va_Qi (fun (q : Int32) (_ : Unit) => q = ρ) (fun _ t => va_P D vwCl (gWl shC cy ad σ') t.heap) A) args s 0 0 A) (F0 m 78 ls [.int y0]) := by
        intro x2 x3 x4 x5 x6 x7 y0 s0 H locs ls h Y hl
        unfold c_Tape_layOut_J78 at h
        refine lv_istore (lv' := [(8, .int y0), (0, .ref (ad 74)), (1, .ref (ad 2)), (2, .int x2), (3, .int x3), (4, .int x4), (5, .int x5), (6, .int x6), (7, .int x7)]) X.1 X.2.1 (dck_at da_X9_layOut 42 rfl) hl (by decide) rfl (fun ls hl => ?_)
        refine lv_iload X.1 X.2.1 (dck_at da_X9_layOut 43 rfl) (lv_at hl 8 rfl) ?_
        refine lv_if_ge (tgt := 99) X.1 X.2.1 (dck_at da_X9_layOut 44 rfl) rfl (fun c => ?_) (fun c => ?_)
        · have h := gI_pos h c
          exact b99 x2 x3 x4 x5 x6 y0 s0 _ _ _ h Y (lv_sub hl [1, 2, 3, 4, 5, 6, 7, 0] rfl)
        · have h := gI_neg h c
          refine gr_ldcS2 X G Y (dck_at da_X9_layOut 45 rfl) ?_
          refine lv_aload_n X.1 X.2.1 (dck_at da_X9_layOut 46 rfl) rfl (lv_at hl 1 rfl) ?_
          refine gr_getR X G Y fk_RX9_11 clC_74 rfl (dck_at da_X9_layOut 47 rfl) ?_
          refine lv_iload X.1 X.2.1 (dck_at da_X9_layOut 48 rfl) (lv_at hl 7 rfl) ?_
          obtain ⟨hin, h⟩ := gI_if h
          refine gr_cald X G Y clC_75 hin (dck_at da_X9_layOut 49 rfl) ?_
          obtain ⟨r2, s2, hc, h⟩ := gB2_some h
          refine gr_backi Y (gr_runW2 (as := [.int (s0.1 75 (x6).toNatClampNeg)]) (rest := []) X G Y (ok_c_String_indexOf_0f7a4 hc) cv_RX9_48 ⟨Nat.le_of_ble_eq_true rfl, Nat.le_of_ble_eq_true rfl⟩ rfl hl.1 (Nat.le_of_ble_eq_true rfl) (dck_at da_X9_layOut 50 rfl)) (fun H locs Y => ?_)
          refine lv_istore (lv' := [(4, .int r2), (8, .int y0), (0, .ref (ad 74)), (1, .ref (ad 2)), (2, .int x2), (3, .int x3), (5, .int x5), (6, .int x6), (7, .int x7)]) X.1 X.2.1 (dck_at da_X9_layOut 51 rfl) hl (by decide) rfl (fun ls hl => ?_)
          exact b99 x2 x3 r2 x5 x6 y0 s2 _ _ _ h Y (lv_sub hl [2, 3, 4, 5, 0, 6, 7, 1] rfl)
      intro x2 x3 x4 x5 x6 s0 H locs ls h Y hl
      unfold c_Tape_layOut_L13b at h
      refine lv_iload X.1 X.2.1 (dck_at da_X9_layOut 10 rfl) (lv_at hl 6 rfl) ?_
      refine lv_aload_n X.1 X.2.1 (dck_at da_X9_layOut 11 rfl) rfl (lv_at hl 0 rfl) ?_
      refine gr_getI X G Y fk_RX9_15 clC_74 rfl (dck_at da_X9_layOut 12 rfl) ?_
      refine lv_icmp_ge (tgt := 143) X.1 X.2.1 (dck_at da_X9_layOut 13 rfl) rfl (fun c => ?_) (fun c => ?_)
      · have h := gI_pos h c
        refine lv_iload X.1 X.2.1 (dck_at da_X9_layOut 74 rfl) (lv_at hl 5 rfl) ?_
        exact gr_iretO X Y h hr rfl hlk (dck_at da_X9_layOut 75 rfl)
      · have h := gI_neg h c
        refine lv_aload_n X.1 X.2.1 (dck_at da_X9_layOut 14 rfl) rfl (lv_at hl 0 rfl) ?_
        refine gr_getR X G Y fk_RX9_11 clC_74 rfl (dck_at da_X9_layOut 15 rfl) ?_
        refine lv_iload X.1 X.2.1 (dck_at da_X9_layOut 16 rfl) (lv_at hl 6 rfl) ?_
        obtain ⟨hin, h⟩ := gI_if h
        refine gr_cald X G Y clC_75 hin (dck_at da_X9_layOut 17 rfl) ?_
        refine lv_bipush X.1 X.2.1 (dck_at da_X9_layOut 18 rfl) kb_32 ?_
        refine lv_icmp_ne (tgt := 37) X.1 X.2.1 (dck_at da_X9_layOut 19 rfl) rfl (fun c => ?_) (fun c => ?_)
        · have h := gI_neg h c
          refine lv_aload_n X.1 X.2.1 (dck_at da_X9_layOut 21 rfl) rfl (lv_at hl 0 rfl) ?_
          refine gr_getR X G Y fk_RX9_11 clC_74 rfl (dck_at da_X9_layOut 22 rfl) ?_
          refine lv_iload X.1 X.2.1 (dck_at da_X9_layOut 23 rfl) (lv_at hl 6 rfl) ?_
          obtain ⟨hin, h⟩ := gI_if h
          refine gr_cald X G Y clC_75 hin (dck_at da_X9_layOut 24 rfl) ?_
          refine lv_bipush X.1 X.2.1 (dck_at da_X9_layOut 25 rfl) kb_47 ?_
          refine lv_icmp_ne (tgt := 57) X.1 X.2.1 (dck_at da_X9_layOut 26 rfl) rfl (fun c => ?_) (fun c => ?_)
          · have h := gI_neg h c
            refine lv_aload_n X.1 X.2.1 (dck_at da_X9_layOut 31 rfl) rfl (lv_at hl 0 rfl) ?_
            refine lv_iload X.1 X.2.1 (dck_at da_X9_layOut 32 rfl) (lv_at hl 6 rfl) ?_
            obtain ⟨r3, s3, hc, h⟩ := gB2_some h
            refine gr_backi Y (gr_runV (as := [.int x6]) (rest := []) X G Y (ok_c_Tape_digitAt hc) cv_RX9_42 clC_74 ⟨Nat.le_of_ble_eq_true rfl, Nat.le_of_ble_eq_true rfl⟩ rfl hl.1 (Nat.le_of_ble_eq_true rfl) (dck_at da_X9_layOut 33 rfl)) (fun H locs Y => ?_)
            refine lv_istore (lv' := [(7, .int r3), (0, .ref (ad 74)), (1, .ref (ad 2)), (2, .int x2), (3, .int x3), (4, .int x4), (5, .int x5), (6, .int x6)]) X.1 X.2.1 (dck_at da_X9_layOut 34 rfl) hl (by decide) rfl (fun ls hl => ?_)
            refine lv_iload X.1 X.2.1 (dck_at da_X9_layOut 35 rfl) (lv_at hl 0 rfl) ?_
            refine lv_if_ge (tgt := 74) X.1 X.2.1 (dck_at da_X9_layOut 36 rfl) rfl (fun c => ?_) (fun c => ?_)
            · have h := gI_pos h c
              refine lv_iload X.1 X.2.1 (dck_at da_X9_layOut 39 rfl) (lv_at hl 0 rfl) ?_
              refine lv_iconst X.1 X.2.1 (dck_at da_X9_layOut 40 rfl) ki_1 ?_
              refine lv_isub X.1 X.2.1 (dck_at da_X9_layOut 41 rfl) ?_
              exact b78 x2 x3 x4 x5 x6 r3 (r3 - (1 : Int32)) s3 _ _ _ h Y (lv_sub hl [1, 2, 3, 4, 5, 6, 7, 0] rfl)
            · have h := gI_neg h c
              refine lv_iconst X.1 X.2.1 (dck_at da_X9_layOut 37 rfl) ki_1 ?_
              refine lv_goto (tgt := 78) X.1 X.2.1 (dck_at da_X9_layOut 38 rfl) rfl ?_
              exact b78 x2 x3 x4 x5 x6 r3 (1 : Int32) s3 _ _ _ h Y (lv_sub hl [1, 2, 3, 4, 5, 6, 7, 0] rfl)
          · have h := gI_pos h c
            refine lv_iinc (v := x2 + (1 : Int32)) (lv' := [(2, .int (x2 + (1 : Int32))), (0, .ref (ad 74)), (1, .ref (ad 2)), (3, .int x3), (4, .int x4), (5, .int x5), (6, .int x6)]) X.1 X.2.1 (dck_at da_X9_layOut 27 rfl) hl (k := 2) rfl (congrArg (HAdd.hAdd _) ki_1) (by decide) rfl (fun ls hl => ?_)
            refine lv_iconst X.1 X.2.1 (dck_at da_X9_layOut 28 rfl) ki_0 ?_
            refine lv_istore_n (lv' := [(3, .int (0 : Int32)), (2, .int (x2 + (1 : Int32))), (0, .ref (ad 74)), (1, .ref (ad 2)), (4, .int x4), (5, .int x5), (6, .int x6)]) X.1 X.2.1 (dck_at da_X9_layOut 29 rfl) rfl hl (by decide) rfl (fun ls hl => ?_)
            refine lv_goto (tgt := 137) X.1 X.2.1 (dck_at da_X9_layOut 30 rfl) rfl ?_
            exact b137 (x2 + (1 : Int32)) (0 : Int32) x4 x5 x6 s0 _ _ _ h Y (lv_sub hl [2, 3, 1, 0, 4, 5, 6] rfl)
        · have h := gI_pos h c
          refine lv_goto (tgt := 137) X.1 X.2.1 (dck_at da_X9_layOut 20 rfl) rfl ?_
          exact b137 x2 x3 x4 x5 x6 s0 _ _ _ h Y (lv_sub hl [0, 1, 2, 3, 4, 5, 6] rfl)
  unfold c_Tape_layOut at h
  refine lv_iconst X.1 X.2.1 (dck_at da_X9_layOut 0 rfl) ki_0 ?_
  refine lv_istore_n (lv' := [(2, .int (0 : Int32)), (0, .ref (ad 74)), (1, .ref (ad 2))]) X.1 X.2.1 (dck_at da_X9_layOut 1 rfl) rfl hl (by decide) rfl (fun ls hl => ?_)
  refine lv_iconst X.1 X.2.1 (dck_at da_X9_layOut 2 rfl) ki_0 ?_
  refine lv_istore_n (lv' := [(3, .int (0 : Int32)), (2, .int (0 : Int32)), (0, .ref (ad 74)), (1, .ref (ad 2))]) X.1 X.2.1 (dck_at da_X9_layOut 3 rfl) rfl hl (by decide) rfl (fun ls hl => ?_)
  refine lv_iconst X.1 X.2.1 (dck_at da_X9_layOut 4 rfl) ki_0 ?_
  refine lv_istore (lv' := [(4, .int (0 : Int32)), (3, .int (0 : Int32)), (2, .int (0 : Int32)), (0, .ref (ad 74)), (1, .ref (ad 2))]) X.1 X.2.1 (dck_at da_X9_layOut 5 rfl) hl (by decide) rfl (fun ls hl => ?_)
  refine lv_iconst X.1 X.2.1 (dck_at da_X9_layOut 6 rfl) ki_0 ?_
  refine lv_istore (lv' := [(5, .int (0 : Int32)), (4, .int (0 : Int32)), (3, .int (0 : Int32)), (2, .int (0 : Int32)), (0, .ref (ad 74)), (1, .ref (ad 2))]) X.1 X.2.1 (dck_at da_X9_layOut 7 rfl) hl (by decide) rfl (fun ls hl => ?_)
  refine lv_iconst X.1 X.2.1 (dck_at da_X9_layOut 8 rfl) ki_0 ?_
  refine lv_istore (lv' := [(6, .int (0 : Int32)), (5, .int (0 : Int32)), (4, .int (0 : Int32)), (3, .int (0 : Int32)), (2, .int (0 : Int32)), (0, .ref (ad 74)), (1, .ref (ad 2))]) X.1 X.2.1 (dck_at da_X9_layOut 9 rfl) hl (by decide) rfl (fun ls hl => ?_)
  exact b13 F (0 : Int32) (0 : Int32) (0 : Int32) (0 : Int32) (0 : Int32) s0 _ _ _ h Y (lv_sub hl [5, 6, 4, 3, 2, 1, 0] rfl)
set_option maxRecDepth 100000 in
set_option maxHeartbeats 4000000 in
theorem ok_c_Tape_readLand {l : Launch} {D : va_G} {cy : Nat → ClassId} {ad sa : Nat → Nat} {A : Nat → Prop} {F : Nat}  {s0 : St} {ρ : Int32} {σ' : St} (h : c_Tape_readLand F s0 = some (ρ, σ')) : gMi l shC D cy ad sa A yX9_readLand cX9_readLand 4 (some .int) 8 [.ref (ad 74), .ref (ad 2)] s0 ρ σ' := by
  refine gM_of (by decide) (Nat.le_of_ble_eq_true rfl) ?_
  intro p e s m args below meth c ls X G Y hr hlk hl
  have hl : lv_has ls 4 [(0, .ref (ad 74)), (1, .ref (ad 2))] := hl
  have b21 : ∀ (y0 : Int32) (s0 : St) (H : Heap) (locs : List Loc) (ls : Array Slot), c_Tape_readLand_J21 F  y0 s0 = some (ρ, σ') → gY shC D cy ad A s0 s H locs → lv_has ls 4 [(0, .ref (ad 74))] → W p l e (grm 8) s m args below meth c H locs 0 0 (MQ below (va_Qi (fun (q : Int32) (_ : Unit) => q = ρ) (fun _ t => va_P D vwCl (gWl shC cy ad σ') t.heap) A) args s 0 0 A) (F0 m 21 ls [.int y0]) := by
    intro y0 s0 H locs ls h Y hl
    unfold c_Tape_readLand_J21 at h
    refine lv_istore_n (lv' := [(3, .int y0), (0, .ref (ad 74))]) X.1 X.2.1 (dck_at da_X9_readLand 12 rfl) rfl hl (by decide) rfl (fun ls hl => ?_)
    refine lv_aload_n X.1 X.2.1 (dck_at da_X9_readLand 13 rfl) rfl (lv_at hl 1 rfl) ?_
    refine lv_iconst X.1 X.2.1 (dck_at da_X9_readLand 14 rfl) ki_0 ?_
    refine gr_putI X G Y fp_RX9_15 clC_74 rfl (dck_at da_X9_readLand 15 rfl) (fun H locs Y => ?_)
    refine lv_iload_n X.1 X.2.1 (dck_at da_X9_readLand 16 rfl) rfl (lv_at hl 0 rfl) ?_
    exact gr_iretO X Y h hr rfl hlk (dck_at da_X9_readLand 17 rfl)
  unfold c_Tape_readLand at h
  refine lv_aload_n X.1 X.2.1 (dck_at da_X9_readLand 0 rfl) rfl (lv_at hl 0 rfl) ?_
  obtain ⟨r1, s1, hc, h⟩ := gB2_some h
  refine gr_backi Y (gr_runV (as := []) (rest := []) X G Y (ok_c_Tape_landFault hc) cv_RX9_27 clC_74 ⟨Nat.le_of_ble_eq_true rfl, Nat.le_of_ble_eq_true rfl⟩ rfl hl.1 (Nat.le_of_ble_eq_true rfl) (dck_at da_X9_readLand 1 rfl)) (fun H locs Y => ?_)
  refine lv_istore_n (lv' := [(2, .int r1), (0, .ref (ad 74)), (1, .ref (ad 2))]) X.1 X.2.1 (dck_at da_X9_readLand 2 rfl) rfl hl (by decide) rfl (fun ls hl => ?_)
  refine lv_iload_n X.1 X.2.1 (dck_at da_X9_readLand 3 rfl) rfl (lv_at hl 0 rfl) ?_
  refine lv_if_ge (tgt := 17) X.1 X.2.1 (dck_at da_X9_readLand 4 rfl) rfl (fun c => ?_) (fun c => ?_)
  · have h := gI_pos h c
    refine lv_bipush X.1 X.2.1 (dck_at da_X9_readLand 9 rfl) kb_m20 ?_
    refine lv_iload_n X.1 X.2.1 (dck_at da_X9_readLand 10 rfl) rfl (lv_at hl 0 rfl) ?_
    refine lv_isub X.1 X.2.1 (dck_at da_X9_readLand 11 rfl) ?_
    exact b21 ((-20 : Int32) - r1) s1 _ _ _ h Y (lv_sub hl [1] rfl)
  · have h := gI_neg h c
    refine lv_aload_n X.1 X.2.1 (dck_at da_X9_readLand 5 rfl) rfl (lv_at hl 1 rfl) ?_
    refine lv_aload_n X.1 X.2.1 (dck_at da_X9_readLand 6 rfl) rfl (lv_at hl 2 rfl) ?_
    obtain ⟨r2, s2, hc, h⟩ := gB2_some h
    refine gr_backi Y (gr_runV (as := [.ref (ad 2)]) (rest := []) X G Y (ok_c_Tape_layOut hc) cv_RX9_31 clC_74 ⟨Nat.le_of_ble_eq_true rfl, Nat.le_of_ble_eq_true rfl⟩ rfl hl.1 (Nat.le_of_ble_eq_true rfl) (dck_at da_X9_readLand 7 rfl)) (fun H locs Y => ?_)
    refine lv_goto (tgt := 21) X.1 X.2.1 (dck_at da_X9_readLand 8 rfl) rfl ?_
    exact b21 r2 s2 _ _ _ h Y (lv_sub hl [1] rfl)
set_option maxRecDepth 100000 in
set_option maxHeartbeats 4000000 in
theorem ok_c_answered {l : Launch} {D : va_G} {cy : Nat → ClassId} {ad sa : Nat → Nat} {A : Nat → Prop} {F : Nat} {a1 : Int32} {s0 : St} {ρ : Int32} {σ' : St} (h : c_answered F a1 s0 = some (ρ, σ')) : gMi l shC D cy ad sa A yX11_answered cX11_answered 2 (some .int) 3 [.ref (ad 0), .int a1] s0 ρ σ' := by
  refine gM_of (by decide) (Nat.le_of_ble_eq_true rfl) ?_
  intro p e s m args below meth c ls X G Y hr hlk hl
  have hl : lv_has ls 2 [(0, .ref (ad 0)), (1, .int a1)] := hl
  unfold c_answered at h
  refine lv_iload_n X.1 X.2.1 (dck_at da_X11_answered 0 rfl) rfl (lv_at hl 1 rfl) ?_
  refine lv_if_ge (tgt := 12) X.1 X.2.1 (dck_at da_X11_answered 1 rfl) rfl (fun c => ?_) (fun c => ?_)
  · have h := gI_pos h c
    refine lv_iload_n X.1 X.2.1 (dck_at da_X11_answered 6 rfl) rfl (lv_at hl 1 rfl) ?_
    exact gr_iretO X Y h hr rfl hlk (dck_at da_X11_answered 7 rfl)
  · have h := gI_neg h c
    refine lv_aload_n X.1 X.2.1 (dck_at da_X11_answered 2 rfl) rfl (lv_at hl 0 rfl) ?_
    refine lv_iload_n X.1 X.2.1 (dck_at da_X11_answered 3 rfl) rfl (lv_at hl 1 rfl) ?_
    obtain ⟨r1, s1, hc, h⟩ := gB2_some h
    refine gr_backi Y (gr_runV (as := [.int a1]) (rest := []) X G Y (ok_c_refuse hc) cv_RX11_55 clC_0 ⟨Nat.le_of_ble_eq_true rfl, Nat.le_of_ble_eq_true rfl⟩ rfl hl.1 (Nat.le_of_ble_eq_true rfl) (dck_at da_X11_answered 4 rfl)) (fun H locs Y => ?_)
    refine lv_goto (tgt := 13) X.1 X.2.1 (dck_at da_X11_answered 5 rfl) rfl ?_
    exact gr_iretO X Y h hr rfl hlk (dck_at da_X11_answered 7 rfl)
set_option maxRecDepth 100000 in
set_option maxHeartbeats 4000000 in
theorem ok_c_land {l : Launch} {D : va_G} {cy : Nat → ClassId} {ad sa : Nat → Nat} {A : Nat → Prop} {F : Nat}  {s0 : St} {ρ : Int32} {σ' : St} (h : c_land F s0 = some (ρ, σ')) : gMi l shC D cy ad sa A yX11_land cX11_land 1 (some .int) 9 [.ref (ad 0)] s0 ρ σ' := by
  refine gM_of (by decide) (Nat.le_of_ble_eq_true rfl) ?_
  intro p e s m args below meth c ls X G Y hr hlk hl
  have hl : lv_has ls 1 [(0, .ref (ad 0))] := hl
  unfold c_land at h
  refine lv_aload_n X.1 X.2.1 (dck_at da_X11_land 0 rfl) rfl (lv_at hl 0 rfl) ?_
  refine lv_aload_n X.1 X.2.1 (dck_at da_X11_land 1 rfl) rfl (lv_at hl 0 rfl) ?_
  refine gr_getR X G Y fk_RX11_29 clC_0 rfl (dck_at da_X11_land 2 rfl) ?_
  refine lv_aload_n X.1 X.2.1 (dck_at da_X11_land 3 rfl) rfl (lv_at hl 0 rfl) ?_
  refine gr_getR X G Y fk_RX11_12 clC_0 rfl (dck_at da_X11_land 4 rfl) ?_
  refine gr_getR X G Y fk_RX11_59 clC_1 rfl (dck_at da_X11_land 5 rfl) ?_
  obtain ⟨r1, s1, hc, h⟩ := gB2_some h
  refine gr_backi Y (gr_runV (as := [.ref (ad 2)]) (rest := [.ref (ad 0)]) X G Y (ok_c_Tape_readLand hc) cv_RX11_105 clC_74 ⟨Nat.le_of_ble_eq_true rfl, Nat.le_of_ble_eq_true rfl⟩ rfl hl.1 (Nat.le_of_ble_eq_true rfl) (dck_at da_X11_land 6 rfl)) (fun H locs Y => ?_)
  obtain ⟨r2, s2, hc, h⟩ := gB2_some h
  refine gr_backi Y (gr_runV (as := [.int r1]) (rest := []) X G Y (ok_c_answered hc) cv_RX11_109 clC_0 ⟨Nat.le_of_ble_eq_true rfl, Nat.le_of_ble_eq_true rfl⟩ rfl hl.1 (Nat.le_of_ble_eq_true rfl) (dck_at da_X11_land 7 rfl)) (fun H locs Y => ?_)
  exact gr_iretO X Y h hr rfl hlk (dck_at da_X11_land 8 rfl)
set_option maxRecDepth 100000 in
set_option maxHeartbeats 4000000 in
theorem ok_c_String_isLatin1_v1 {l : Launch} {D : va_G} {cy : Nat → ClassId} {ad sa : Nat → Nat} {A : Nat → Prop} {F : Nat}  {s0 : St} {ρ : Int32} {σ' : St} (h : c_String_isLatin1_v1 F s0 = some (ρ, σ')) : gMi l shC D cy ad sa A yJ0_isLatin1_aae02 cJ0_isLatin1_aae02 1 (some .boolean) 1 [.ref (sa 3)] s0 ρ σ' := by
  refine gM_of (by decide) (Nat.le_of_ble_eq_true rfl) ?_
  intro p e s m args below meth c ls X G Y hr hlk hl
  have hl : lv_has ls 1 [(0, .ref (sa 3))] := hl
  have b17 : ∀  (s0 : St) (H : Heap) (locs : List Loc) (ls : Array Slot), c_String_isLatin1_v1_J17 F  s0 = some (ρ, σ') → gY shC D cy ad A s0 s H locs → lv_has ls 1 [] → W p l e (grm 1) s m args below meth c H locs 0 0 (MQ below (va_Qi (fun (q : Int32) (_ : Unit) => q = ρ) (fun _ t => va_P D vwCl (gWl shC cy ad σ') t.heap) A) args s 0 0 A) (F0 m 17 ls []) := by
    intro s0 H locs ls h Y hl
    unfold c_String_isLatin1_v1_J17 at h
    refine lv_iconst X.1 X.2.1 (dck_at da_J0_isLatin1_aae02 7 rfl) ki_0 ?_
    exact gr_iretO X Y h hr rfl hlk (dck_at da_J0_isLatin1_aae02 8 rfl)
  unfold c_String_isLatin1_v1 at h
  refine gr_getSC X G Y wm_465 (dck_at da_J0_isLatin1_aae02 0 rfl) ?_
  refine lv_if_eq (tgt := 17) X.1 X.2.1 (dck_at da_J0_isLatin1_aae02 1 rfl) rfl (fun c => ?_) (fun c => ?_)
  · have h := gI_pos h c
    exact b17 s0 _ _ _ h Y (lv_sub hl [] rfl)
  · have h := gI_neg h c
    refine lv_aload_n X.1 X.2.1 (dck_at da_J0_isLatin1_aae02 2 rfl) rfl (lv_at hl 0 rfl) ?_
    refine gr_getK3 X G Y wm_1631 (dck_at da_J0_isLatin1_aae02 3 rfl) ?_
    refine lv_if_ne (tgt := 17) X.1 X.2.1 (dck_at da_J0_isLatin1_aae02 4 rfl) rfl (fun c => ?_) (fun c => ?_)
    · have h := gI_neg h c
      exact b17 s0 _ _ _ h Y (lv_sub hl [] rfl)
    · have h := gI_pos h c
      refine lv_iconst X.1 X.2.1 (dck_at da_J0_isLatin1_aae02 5 rfl) ki_1 ?_
      refine lv_goto (tgt := 18) X.1 X.2.1 (dck_at da_J0_isLatin1_aae02 6 rfl) rfl ?_
      exact gr_iretO X Y h hr rfl hlk (dck_at da_J0_isLatin1_aae02 8 rfl)
set_option maxRecDepth 100000 in
set_option maxHeartbeats 4000000 in
theorem ok_c_String_coder_v1 {l : Launch} {D : va_G} {cy : Nat → ClassId} {ad sa : Nat → Nat} {A : Nat → Prop} {F : Nat}  {s0 : St} {ρ : Int32} {σ' : St} (h : c_String_coder_v1 F s0 = some (ρ, σ')) : gMi l shC D cy ad sa A yJ0_coder_7d493 cJ0_coder_7d493 1 (some .byte) 1 [.ref (sa 3)] s0 ρ σ' := by
  refine gM_of (by decide) (Nat.le_of_ble_eq_true rfl) ?_
  intro p e s m args below meth c ls X G Y hr hlk hl
  have hl : lv_has ls 1 [(0, .ref (sa 3))] := hl
  unfold c_String_coder_v1 at h
  refine gr_getSC X G Y wm_465 (dck_at da_J0_coder_7d493 0 rfl) ?_
  refine lv_if_eq (tgt := 13) X.1 X.2.1 (dck_at da_J0_coder_7d493 1 rfl) rfl (fun c => ?_) (fun c => ?_)
  · have h := gI_pos h c
    refine lv_iconst X.1 X.2.1 (dck_at da_J0_coder_7d493 5 rfl) ki_1 ?_
    exact (gnone h).elim
  · have h := gI_neg h c
    refine lv_aload_n X.1 X.2.1 (dck_at da_J0_coder_7d493 2 rfl) rfl (lv_at hl 0 rfl) ?_
    refine gr_getK3 X G Y wm_1631 (dck_at da_J0_coder_7d493 3 rfl) ?_
    refine lv_goto (tgt := 14) X.1 X.2.1 (dck_at da_J0_coder_7d493 4 rfl) rfl ?_
    exact gr_iretO X Y h hr rfl hlk (dck_at da_J0_coder_7d493 6 rfl)
set_option maxRecDepth 100000 in
set_option maxHeartbeats 4000000 in
theorem ok_c_String_length_v1 {l : Launch} {D : va_G} {cy : Nat → ClassId} {ad sa : Nat → Nat} {A : Nat → Prop} {F : Nat}  {s0 : St} {ρ : Int32} {σ' : St} (h : c_String_length_v1 F s0 = some (ρ, σ')) : gMi l shC D cy ad sa A yJ0_length_8abf5 cJ0_length_8abf5 1 (some .int) 2 [.ref (sa 3)] s0 ρ σ' := by
  refine gM_of (by decide) (Nat.le_of_ble_eq_true rfl) ?_
  intro p e s m args below meth c ls X G Y hr hlk hl
  have hl : lv_has ls 1 [(0, .ref (sa 3))] := hl
  unfold c_String_length_v1 at h
  refine lv_aload_n X.1 X.2.1 (dck_at da_J0_length_8abf5 0 rfl) rfl (lv_at hl 0 rfl) ?_
  refine gr_getV3 X G Y wm_1632 (dck_at da_J0_length_8abf5 1 rfl) ?_
  refine gr_tlen5 X G Y (dck_at da_J0_length_8abf5 2 rfl) ?_
  refine lv_aload_n X.1 X.2.1 (dck_at da_J0_length_8abf5 3 rfl) rfl (lv_at hl 0 rfl) ?_
  obtain ⟨r1, s1, hc, h⟩ := gB2_some h
  refine gr_backi Y (gr_runW3 (as := []) (rest := [.int (6 : Int32)]) X G Y (ok_c_String_coder_v1 hc) cv_RJ0_335 ⟨Nat.le_of_ble_eq_true rfl, Nat.le_of_ble_eq_true rfl⟩ rfl hl.1 (Nat.le_of_ble_eq_true rfl) (dck_at da_J0_length_8abf5 4 rfl)) (fun H locs Y => ?_)
  refine lv_ishr X.1 X.2.1 (dck_at da_J0_length_8abf5 5 rfl) ?_
  exact gr_iretO X Y h hr rfl hlk (dck_at da_J0_length_8abf5 6 rfl)
set_option maxRecDepth 100000 in
set_option maxHeartbeats 4000000 in
theorem ok_c_StringUTF16_getChar_v1 {l : Launch} {D : va_G} {cy : Nat → ClassId} {ad sa : Nat → Nat} {A : Nat → Prop} {F : Nat} {a1 : Int32} {s0 : St} {ρ : Int32} {σ' : St} (h : c_StringUTF16_getChar_v1 F a1 s0 = some (ρ, σ')) : gMi l shC D cy ad sa A yJ2_getChar_3b067 cJ2_getChar_3b067 2 (some .char) 1 [.ref (sa 5), .int a1] s0 ρ σ' := by
  refine gM_of (by decide) (Nat.le_of_ble_eq_true rfl) ?_
  intro p e s m args below meth c ls X G Y hr hlk hl
  have hl : lv_has ls 2 [(0, .ref (sa 5)), (1, .int a1)] := hl
  unfold c_StringUTF16_getChar_v1 at h
  exact (gnone h).elim
set_option maxRecDepth 100000 in
set_option maxHeartbeats 4000000 in
theorem ok_c_StringUTF16_length_v1 {l : Launch} {D : va_G} {cy : Nat → ClassId} {ad sa : Nat → Nat} {A : Nat → Prop} {F : Nat}  {s0 : St} {ρ : Int32} {σ' : St} (h : c_StringUTF16_length_v1 F s0 = some (ρ, σ')) : gMi l shC D cy ad sa A yJ2_length_9d52b cJ2_length_9d52b 1 (some .int) 1 [.ref (sa 5)] s0 ρ σ' := by
  refine gM_of (by decide) (Nat.le_of_ble_eq_true rfl) ?_
  intro p e s m args below meth c ls X G Y hr hlk hl
  have hl : lv_has ls 1 [(0, .ref (sa 5))] := hl
  unfold c_StringUTF16_length_v1 at h
  refine lv_aload_n X.1 X.2.1 (dck_at da_J2_length_9d52b 0 rfl) rfl (lv_at hl 0 rfl) ?_
  refine gr_tlen5 X G Y (dck_at da_J2_length_9d52b 1 rfl) ?_
  refine lv_iconst X.1 X.2.1 (dck_at da_J2_length_9d52b 2 rfl) ki_1 ?_
  refine lv_ishr X.1 X.2.1 (dck_at da_J2_length_9d52b 3 rfl) ?_
  exact gr_iretO X Y h hr rfl hlk (dck_at da_J2_length_9d52b 4 rfl)
set_option maxRecDepth 100000 in
set_option maxHeartbeats 4000000 in
theorem ok_c_StringUTF16_checkBoundsBeginEnd_v1 {l : Launch} {D : va_G} {cy : Nat → ClassId} {ad sa : Nat → Nat} {A : Nat → Prop} {F : Nat} {a0 : Int32} {a1 : Int32} {s0 : St} {σ' : St} (h : c_StringUTF16_checkBoundsBeginEnd_v1 F a0 a1 s0 = some σ') : gMv l shC D cy ad sa A yJ2_checkBoundsBeginEnd_d044e cJ2_checkBoundsBeginEnd_d044e 3 none 2 [.int a0, .int a1, .ref (sa 5)] s0 σ' := by
  refine gM_of (by decide) (Nat.le_of_ble_eq_true rfl) ?_
  intro p e s m args below meth c ls X G Y hr hlk hl
  have hl : lv_has ls 3 [(0, .int a0), (1, .int a1), (2, .ref (sa 5))] := hl
  unfold c_StringUTF16_checkBoundsBeginEnd_v1 at h
  refine lv_iload_n X.1 X.2.1 (dck_at da_J2_checkBoundsBeginEnd_d044e 0 rfl) rfl (lv_at hl 0 rfl) ?_
  refine lv_iload_n X.1 X.2.1 (dck_at da_J2_checkBoundsBeginEnd_d044e 1 rfl) rfl (lv_at hl 1 rfl) ?_
  refine lv_aload_n X.1 X.2.1 (dck_at da_J2_checkBoundsBeginEnd_d044e 2 rfl) rfl (lv_at hl 2 rfl) ?_
  obtain ⟨r1, s1, hc, h⟩ := gB2_some h
  refine gr_backi Y (gr_runS (as := [.ref (sa 5)]) (rest := [.int a1, .int a0]) X G Y (ok_c_StringUTF16_length_v1 hc) cs_RJ2_48 ⟨Nat.le_of_ble_eq_true rfl, Nat.le_of_ble_eq_true rfl⟩ rfl hl.1 (Nat.le_of_ble_eq_true rfl) (dck_at da_J2_checkBoundsBeginEnd_d044e 3 rfl)) (fun H locs Y => ?_)
  obtain ⟨s2, hc, h⟩ := gB_some h
  refine gr_backv Y (gr_runS (as := [.int a0, .int a1, .int r1]) (rest := []) X G Y (ok_c_String_checkBoundsBeginEnd hc) cs_RJ2_241 ⟨Nat.le_of_ble_eq_true rfl, Nat.le_of_ble_eq_true rfl⟩ rfl hl.1 (Nat.le_of_ble_eq_true rfl) (dck_at da_J2_checkBoundsBeginEnd_d044e 4 rfl)) (fun H locs Y => ?_)
  exact gr_vretO X Y h hr hlk (dck_at da_J2_checkBoundsBeginEnd_d044e 5 rfl)
set_option maxRecDepth 100000 in
set_option maxHeartbeats 4000000 in
theorem ok_c_StringUTF16_indexOfSupplementary_v1 {l : Launch} {D : va_G} {cy : Nat → ClassId} {ad sa : Nat → Nat} {A : Nat → Prop} {F : Nat} {a1 : Int32} {a2 : Int32} {a3 : Int32} {s0 : St} {ρ : Int32} {σ' : St} (h : c_StringUTF16_indexOfSupplementary_v1 F a1 a2 a3 s0 = some (ρ, σ')) : gMi l shC D cy ad sa A yJ2_indexOfSupplementary_4cfef cJ2_indexOfSupplementary_4cfef 7 (some .int) 3 [.ref (sa 5), .int a1, .int a2, .int a3] s0 ρ σ' := by
  refine gM_of (by decide) (Nat.le_of_ble_eq_true rfl) ?_
  intro p e s m args below meth c ls X G Y hr hlk hl
  have hl : lv_has ls 7 [(0, .ref (sa 5)), (1, .int a1), (2, .int a2), (3, .int a3)] := hl
  have b28 : ∀ n : Nat, ∀ (x3 : Int32) (x4 : Int32) (x5 : Int32) (x6 : Int32) (s0 : St) (H : Heap) (locs : List Loc) (ls : Array Slot), c_StringUTF16_indexOfSupplementary_v1_L28 F  n x3 x4 x5 x6 s0 = some (ρ, σ') → gY shC D cy ad A s0 s H locs → lv_has ls 7 [(0, .ref (sa 5)), (3, .int x3), (4, .int x4), (5, .int x5), (6, .int x6)] → W p l e (grm 3) s m args below meth c H locs 0 0 (MQ below (va_Qi (fun (q : Int32) (_ : Unit) => q = ρ) (fun _ t => va_P D vwCl (gWl shC cy ad σ') t.heap) A) args s 0 0 A) (F0 m 28 ls []) := by
    intro n
    induction n with
    | zero => intro x3 x4 x5 x6 s0 H locs ls h Y hl; exact (gnone h).elim
    | succ n hk28 =>
      have e : c_StringUTF16_indexOfSupplementary_v1_L28 F  (n + 1) = c_StringUTF16_indexOfSupplementary_v1_L28b F  (c_StringUTF16_indexOfSupplementary_v1_L28 F  n) := rfl
      rw [e]; clear e
      generalize c_StringUTF16_indexOfSupplementary_v1_L28 F  n = k28 at hk28 ⊢
      have b63 : ∀ (x3 : Int32) (x4 : Int32) (x5 : Int32) (x6 : Int32) (s0 : St) (H : Heap) (locs : List Loc) (ls : Array Slot), c_StringUTF16_indexOfSupplementary_v1_J63 F k28 x3 x4 x5 x6 s0 = some (ρ, σ') → gY shC D cy ad A s0 s H locs → lv_has ls 7 [(0, .ref (sa 5)), (3, .int x3), (4, .int x4), (5, .int x5), (6, .int x6)] → W p l e (grm 3) s m args below meth c H locs 0 0 (MQ below (va_Qi (fun (q : Int32) (_ : Unit) => q = ρ) (fun _ t => va_P D vwCl (gWl shC cy ad σ') t.heap) A) args s 0 0 A) (F0 m 63 ls []) := by
        intro x3 x4 x5 x6 s0 H locs ls h Y hl
        unfold c_StringUTF16_indexOfSupplementary_v1_J63 at h
        refine lv_iinc (v := x6 + (1 : Int32)) (lv' := [(6, .int (x6 + (1 : Int32))), (0, .ref (sa 5)), (3, .int x3), (4, .int x4), (5, .int x5)]) X.1 X.2.1 (dck_at da_J2_indexOfSupplementary_4cfef 34 rfl) hl (k := 4) rfl (congrArg (HAdd.hAdd _) ki_1) (by decide) rfl (fun ls hl => ?_)
        refine lv_goto (tgt := 28) X.1 X.2.1 (dck_at da_J2_indexOfSupplementary_4cfef 35 rfl) rfl ?_
        exact hk28 x3 x4 x5 (x6 + (1 : Int32)) s0 _ _ _ h Y (lv_sub hl [1, 2, 3, 4, 0] rfl)
      intro x3 x4 x5 x6 s0 H locs ls h Y hl
      unfold c_StringUTF16_indexOfSupplementary_v1_L28b at h
      refine lv_iload X.1 X.2.1 (dck_at da_J2_indexOfSupplementary_4cfef 15 rfl) (lv_at hl 4 rfl) ?_
      refine lv_iload_n X.1 X.2.1 (dck_at da_J2_indexOfSupplementary_4cfef 16 rfl) rfl (lv_at hl 1 rfl) ?_
      refine lv_iconst X.1 X.2.1 (dck_at da_J2_indexOfSupplementary_4cfef 17 rfl) ki_1 ?_
      refine lv_isub X.1 X.2.1 (dck_at da_J2_indexOfSupplementary_4cfef 18 rfl) ?_
      refine lv_icmp_ge (tgt := 69) X.1 X.2.1 (dck_at da_J2_indexOfSupplementary_4cfef 19 rfl) rfl (fun c => ?_) (fun c => ?_)
      · have h := gI_pos h c
        refine lv_iconst X.1 X.2.1 (dck_at da_J2_indexOfSupplementary_4cfef 36 rfl) ki_m1 ?_
        exact gr_iretO X Y h hr rfl hlk (dck_at da_J2_indexOfSupplementary_4cfef 37 rfl)
      · have h := gI_neg h c
        refine lv_aload_n X.1 X.2.1 (dck_at da_J2_indexOfSupplementary_4cfef 20 rfl) rfl (lv_at hl 0 rfl) ?_
        refine lv_iload X.1 X.2.1 (dck_at da_J2_indexOfSupplementary_4cfef 21 rfl) (lv_at hl 4 rfl) ?_
        obtain ⟨r1, s1, hc, h⟩ := gB2_some h
        refine gr_backi Y (gr_runS (as := [.ref (sa 5), .int x6]) (rest := []) X G Y (ok_c_StringUTF16_getChar_v1 hc) cs_RJ2_71 ⟨Nat.le_of_ble_eq_true rfl, Nat.le_of_ble_eq_true rfl⟩ rfl hl.1 (Nat.le_of_ble_eq_true rfl) (dck_at da_J2_indexOfSupplementary_4cfef 22 rfl)) (fun H locs Y => ?_)
        refine lv_iload X.1 X.2.1 (dck_at da_J2_indexOfSupplementary_4cfef 23 rfl) (lv_at hl 2 rfl) ?_
        refine lv_icmp_ne (tgt := 63) X.1 X.2.1 (dck_at da_J2_indexOfSupplementary_4cfef 24 rfl) rfl (fun c => ?_) (fun c => ?_)
        · have h := gI_neg h c
          exact b63 x3 x4 x5 x6 s1 _ _ _ h Y (lv_sub hl [0, 1, 2, 3, 4] rfl)
        · have h := gI_pos h c
          refine lv_aload_n X.1 X.2.1 (dck_at da_J2_indexOfSupplementary_4cfef 25 rfl) rfl (lv_at hl 0 rfl) ?_
          refine lv_iload X.1 X.2.1 (dck_at da_J2_indexOfSupplementary_4cfef 26 rfl) (lv_at hl 4 rfl) ?_
          refine lv_iconst X.1 X.2.1 (dck_at da_J2_indexOfSupplementary_4cfef 27 rfl) ki_1 ?_
          refine lv_iadd X.1 X.2.1 (dck_at da_J2_indexOfSupplementary_4cfef 28 rfl) ?_
          obtain ⟨r2, s2, hc, h⟩ := gB2_some h
          refine gr_backi Y (gr_runS (as := [.ref (sa 5), .int (x6 + (1 : Int32))]) (rest := []) X G Y (ok_c_StringUTF16_getChar_v1 hc) cs_RJ2_71 ⟨Nat.le_of_ble_eq_true rfl, Nat.le_of_ble_eq_true rfl⟩ rfl hl.1 (Nat.le_of_ble_eq_true rfl) (dck_at da_J2_indexOfSupplementary_4cfef 29 rfl)) (fun H locs Y => ?_)
          refine lv_iload X.1 X.2.1 (dck_at da_J2_indexOfSupplementary_4cfef 30 rfl) (lv_at hl 3 rfl) ?_
          refine lv_icmp_ne (tgt := 63) X.1 X.2.1 (dck_at da_J2_indexOfSupplementary_4cfef 31 rfl) rfl (fun c => ?_) (fun c => ?_)
          · have h := gI_neg h c
            exact b63 x3 x4 x5 x6 s2 _ _ _ h Y (lv_sub hl [0, 1, 2, 3, 4] rfl)
          · have h := gI_pos h c
            refine lv_iload X.1 X.2.1 (dck_at da_J2_indexOfSupplementary_4cfef 32 rfl) (lv_at hl 4 rfl) ?_
            exact gr_iretO X Y h hr rfl hlk (dck_at da_J2_indexOfSupplementary_4cfef 33 rfl)
  unfold c_StringUTF16_indexOfSupplementary_v1 at h
  refine lv_iload_n X.1 X.2.1 (dck_at da_J2_indexOfSupplementary_4cfef 0 rfl) rfl (lv_at hl 1 rfl) ?_
  obtain ⟨r3, s3, hc, h⟩ := gB2_some h
  refine gr_backi Y (gr_runS (as := [.int a1]) (rest := []) X G Y (ok_c_Character_isValidCodePoint hc) cs_RJ2_164 ⟨Nat.le_of_ble_eq_true rfl, Nat.le_of_ble_eq_true rfl⟩ rfl hl.1 (Nat.le_of_ble_eq_true rfl) (dck_at da_J2_indexOfSupplementary_4cfef 1 rfl)) (fun H locs Y => ?_)
  refine lv_if_eq (tgt := 69) X.1 X.2.1 (dck_at da_J2_indexOfSupplementary_4cfef 2 rfl) rfl (fun c => ?_) (fun c => ?_)
  · have h := gI_pos h c
    refine lv_iconst X.1 X.2.1 (dck_at da_J2_indexOfSupplementary_4cfef 36 rfl) ki_m1 ?_
    exact gr_iretO X Y h hr rfl hlk (dck_at da_J2_indexOfSupplementary_4cfef 37 rfl)
  · have h := gI_neg h c
    refine lv_iload_n X.1 X.2.1 (dck_at da_J2_indexOfSupplementary_4cfef 3 rfl) rfl (lv_at hl 1 rfl) ?_
    obtain ⟨r4, s4, hc, h⟩ := gB2_some h
    refine gr_backi Y (gr_runS (as := [.int a1]) (rest := []) X G Y (ok_c_Character_highSurrogate hc) cs_RJ2_157 ⟨Nat.le_of_ble_eq_true rfl, Nat.le_of_ble_eq_true rfl⟩ rfl hl.1 (Nat.le_of_ble_eq_true rfl) (dck_at da_J2_indexOfSupplementary_4cfef 4 rfl)) (fun H locs Y => ?_)
    refine lv_istore (lv' := [(4, .int r4), (0, .ref (sa 5)), (1, .int a1), (2, .int a2), (3, .int a3)]) X.1 X.2.1 (dck_at da_J2_indexOfSupplementary_4cfef 5 rfl) hl (by decide) rfl (fun ls hl => ?_)
    refine lv_iload_n X.1 X.2.1 (dck_at da_J2_indexOfSupplementary_4cfef 6 rfl) rfl (lv_at hl 2 rfl) ?_
    obtain ⟨r5, s5, hc, h⟩ := gB2_some h
    refine gr_backi Y (gr_runS (as := [.int a1]) (rest := []) X G Y (ok_c_Character_lowSurrogate hc) cs_RJ2_161 ⟨Nat.le_of_ble_eq_true rfl, Nat.le_of_ble_eq_true rfl⟩ rfl hl.1 (Nat.le_of_ble_eq_true rfl) (dck_at da_J2_indexOfSupplementary_4cfef 7 rfl)) (fun H locs Y => ?_)
    refine lv_istore (lv' := [(5, .int r5), (4, .int r4), (0, .ref (sa 5)), (1, .int a1), (2, .int a2), (3, .int a3)]) X.1 X.2.1 (dck_at da_J2_indexOfSupplementary_4cfef 8 rfl) hl (by decide) rfl (fun ls hl => ?_)
    refine lv_iload_n X.1 X.2.1 (dck_at da_J2_indexOfSupplementary_4cfef 9 rfl) rfl (lv_at hl 4 rfl) ?_
    refine lv_iload_n X.1 X.2.1 (dck_at da_J2_indexOfSupplementary_4cfef 10 rfl) rfl (lv_at hl 5 rfl) ?_
    refine lv_aload_n X.1 X.2.1 (dck_at da_J2_indexOfSupplementary_4cfef 11 rfl) rfl (lv_at hl 2 rfl) ?_
    obtain ⟨s6, hc, h⟩ := gB_some h
    refine gr_backv Y (gr_runS (as := [.int a2, .int a3, .ref (sa 5)]) (rest := []) X G Y (ok_c_StringUTF16_checkBoundsBeginEnd_v1 hc) cs_RJ2_96 ⟨Nat.le_of_ble_eq_true rfl, Nat.le_of_ble_eq_true rfl⟩ rfl hl.1 (Nat.le_of_ble_eq_true rfl) (dck_at da_J2_indexOfSupplementary_4cfef 12 rfl)) (fun H locs Y => ?_)
    refine lv_iload_n X.1 X.2.1 (dck_at da_J2_indexOfSupplementary_4cfef 13 rfl) rfl (lv_at hl 4 rfl) ?_
    refine lv_istore (lv' := [(6, .int a2), (5, .int r5), (4, .int r4), (0, .ref (sa 5)), (1, .int a1), (2, .int a2), (3, .int a3)]) X.1 X.2.1 (dck_at da_J2_indexOfSupplementary_4cfef 14 rfl) hl (by decide) rfl (fun ls hl => ?_)
    exact b28 F a3 r4 r5 a2 s6 _ _ _ h Y (lv_sub hl [3, 6, 2, 1, 0] rfl)
set_option maxRecDepth 100000 in
set_option maxHeartbeats 4000000 in
theorem ok_c_StringUTF16_indexOfCharUnsafe_v1 {l : Launch} {D : va_G} {cy : Nat → ClassId} {ad sa : Nat → Nat} {A : Nat → Prop} {F : Nat} {a1 : Int32} {a2 : Int32} {a3 : Int32} {s0 : St} {ρ : Int32} {σ' : St} (h : c_StringUTF16_indexOfCharUnsafe_v1 F a1 a2 a3 s0 = some (ρ, σ')) : gMi l shC D cy ad sa A yJ2_indexOfCharUnsafe_4cfef cJ2_indexOfCharUnsafe_4cfef 5 (some .int) 2 [.ref (sa 5), .int a1, .int a2, .int a3] s0 ρ σ' := by
  refine gM_of (by decide) (Nat.le_of_ble_eq_true rfl) ?_
  intro p e s m args below meth c ls X G Y hr hlk hl
  have hl : lv_has ls 5 [(0, .ref (sa 5)), (1, .int a1), (2, .int a2), (3, .int a3)] := hl
  have b3 : ∀ n : Nat, ∀ (x1 : Int32) (x3 : Int32) (x4 : Int32) (s0 : St) (H : Heap) (locs : List Loc) (ls : Array Slot), c_StringUTF16_indexOfCharUnsafe_v1_L3 F  n x1 x3 x4 s0 = some (ρ, σ') → gY shC D cy ad A s0 s H locs → lv_has ls 5 [(0, .ref (sa 5)), (1, .int x1), (3, .int x3), (4, .int x4)] → W p l e (grm 2) s m args below meth c H locs 0 0 (MQ below (va_Qi (fun (q : Int32) (_ : Unit) => q = ρ) (fun _ t => va_P D vwCl (gWl shC cy ad σ') t.heap) A) args s 0 0 A) (F0 m 3 ls []) := by
    intro n
    induction n with
    | zero => intro x1 x3 x4 s0 H locs ls h Y hl; exact (gnone h).elim
    | succ n hk3 =>
      have e : c_StringUTF16_indexOfCharUnsafe_v1_L3 F  (n + 1) = c_StringUTF16_indexOfCharUnsafe_v1_L3b F  (c_StringUTF16_indexOfCharUnsafe_v1_L3 F  n) := rfl
      rw [e]; clear e
      generalize c_StringUTF16_indexOfCharUnsafe_v1_L3 F  n = k3 at hk3 ⊢
      intro x1 x3 x4 s0 H locs ls h Y hl
      unfold c_StringUTF16_indexOfCharUnsafe_v1_L3b at h
      refine lv_iload X.1 X.2.1 (dck_at da_J2_indexOfCharUnsafe_4cfef 2 rfl) (lv_at hl 3 rfl) ?_
      refine lv_iload_n X.1 X.2.1 (dck_at da_J2_indexOfCharUnsafe_4cfef 3 rfl) rfl (lv_at hl 2 rfl) ?_
      refine lv_icmp_ge (tgt := 28) X.1 X.2.1 (dck_at da_J2_indexOfCharUnsafe_4cfef 4 rfl) rfl (fun c => ?_) (fun c => ?_)
      · have h := gI_pos h c
        refine lv_iconst X.1 X.2.1 (dck_at da_J2_indexOfCharUnsafe_4cfef 14 rfl) ki_m1 ?_
        exact gr_iretO X Y h hr rfl hlk (dck_at da_J2_indexOfCharUnsafe_4cfef 15 rfl)
      · have h := gI_neg h c
        refine lv_aload_n X.1 X.2.1 (dck_at da_J2_indexOfCharUnsafe_4cfef 5 rfl) rfl (lv_at hl 0 rfl) ?_
        refine lv_iload X.1 X.2.1 (dck_at da_J2_indexOfCharUnsafe_4cfef 6 rfl) (lv_at hl 3 rfl) ?_
        obtain ⟨r1, s1, hc, h⟩ := gB2_some h
        refine gr_backi Y (gr_runS (as := [.ref (sa 5), .int x4]) (rest := []) X G Y (ok_c_StringUTF16_getChar_v1 hc) cs_RJ2_71 ⟨Nat.le_of_ble_eq_true rfl, Nat.le_of_ble_eq_true rfl⟩ rfl hl.1 (Nat.le_of_ble_eq_true rfl) (dck_at da_J2_indexOfCharUnsafe_4cfef 7 rfl)) (fun H locs Y => ?_)
        refine lv_iload_n X.1 X.2.1 (dck_at da_J2_indexOfCharUnsafe_4cfef 8 rfl) rfl (lv_at hl 1 rfl) ?_
        refine lv_icmp_ne (tgt := 22) X.1 X.2.1 (dck_at da_J2_indexOfCharUnsafe_4cfef 9 rfl) rfl (fun c => ?_) (fun c => ?_)
        · have h := gI_neg h c
          refine lv_iinc (v := x4 + (1 : Int32)) (lv' := [(4, .int (x4 + (1 : Int32))), (0, .ref (sa 5)), (1, .int x1), (3, .int x3)]) X.1 X.2.1 (dck_at da_J2_indexOfCharUnsafe_4cfef 12 rfl) hl (k := 3) rfl (congrArg (HAdd.hAdd _) ki_1) (by decide) rfl (fun ls hl => ?_)
          refine lv_goto (tgt := 3) X.1 X.2.1 (dck_at da_J2_indexOfCharUnsafe_4cfef 13 rfl) rfl ?_
          exact hk3 x1 x3 (x4 + (1 : Int32)) s1 _ _ _ h Y (lv_sub hl [1, 2, 3, 0] rfl)
        · have h := gI_pos h c
          refine lv_iload X.1 X.2.1 (dck_at da_J2_indexOfCharUnsafe_4cfef 10 rfl) (lv_at hl 3 rfl) ?_
          exact gr_iretO X Y h hr rfl hlk (dck_at da_J2_indexOfCharUnsafe_4cfef 11 rfl)
  unfold c_StringUTF16_indexOfCharUnsafe_v1 at h
  refine lv_iload_n X.1 X.2.1 (dck_at da_J2_indexOfCharUnsafe_4cfef 0 rfl) rfl (lv_at hl 2 rfl) ?_
  refine lv_istore (lv' := [(4, .int a2), (0, .ref (sa 5)), (1, .int a1), (2, .int a2), (3, .int a3)]) X.1 X.2.1 (dck_at da_J2_indexOfCharUnsafe_4cfef 1 rfl) hl (by decide) rfl (fun ls hl => ?_)
  exact b3 F a1 a3 a2 s0 _ _ _ h Y (lv_sub hl [1, 2, 4, 0] rfl)
set_option maxRecDepth 100000 in
set_option maxHeartbeats 4000000 in
theorem ok_c_StringUTF16_indexOfChar_v1 {l : Launch} {D : va_G} {cy : Nat → ClassId} {ad sa : Nat → Nat} {A : Nat → Prop} {F : Nat} {a1 : Int32} {a2 : Int32} {a3 : Int32} {s0 : St} {ρ : Int32} {σ' : St} (h : c_StringUTF16_indexOfChar_v1 F a1 a2 a3 s0 = some (ρ, σ')) : gMi l shC D cy ad sa A yJ2_indexOfChar_4cfef cJ2_indexOfChar_4cfef 4 (some .int) 3 [.ref (sa 5), .int a1, .int a2, .int a3] s0 ρ σ' := by
  refine gM_of (by decide) (Nat.le_of_ble_eq_true rfl) ?_
  intro p e s m args below meth c ls X G Y hr hlk hl
  have hl : lv_has ls 4 [(0, .ref (sa 5)), (1, .int a1), (2, .int a2), (3, .int a3)] := hl
  unfold c_StringUTF16_indexOfChar_v1 at h
  refine lv_iload_n X.1 X.2.1 (dck_at da_J2_indexOfChar_4cfef 0 rfl) rfl (lv_at hl 2 rfl) ?_
  refine lv_iload_n X.1 X.2.1 (dck_at da_J2_indexOfChar_4cfef 1 rfl) rfl (lv_at hl 3 rfl) ?_
  refine lv_aload_n X.1 X.2.1 (dck_at da_J2_indexOfChar_4cfef 2 rfl) rfl (lv_at hl 0 rfl) ?_
  obtain ⟨s1, hc, h⟩ := gB_some h
  refine gr_backv Y (gr_runS (as := [.int a2, .int a3, .ref (sa 5)]) (rest := []) X G Y (ok_c_StringUTF16_checkBoundsBeginEnd_v1 hc) cs_RJ2_96 ⟨Nat.le_of_ble_eq_true rfl, Nat.le_of_ble_eq_true rfl⟩ rfl hl.1 (Nat.le_of_ble_eq_true rfl) (dck_at da_J2_indexOfChar_4cfef 3 rfl)) (fun H locs Y => ?_)
  refine lv_aload_n X.1 X.2.1 (dck_at da_J2_indexOfChar_4cfef 4 rfl) rfl (lv_at hl 0 rfl) ?_
  refine lv_iload_n X.1 X.2.1 (dck_at da_J2_indexOfChar_4cfef 5 rfl) rfl (lv_at hl 1 rfl) ?_
  refine lv_iload_n X.1 X.2.1 (dck_at da_J2_indexOfChar_4cfef 6 rfl) rfl (lv_at hl 2 rfl) ?_
  refine lv_iload_n X.1 X.2.1 (dck_at da_J2_indexOfChar_4cfef 7 rfl) rfl (lv_at hl 3 rfl) ?_
  obtain ⟨r2, s2, hc, h⟩ := gB2_some h
  refine gr_backi Y (gr_runS (as := [.ref (sa 5), .int a1, .int a2, .int a3]) (rest := []) X G Y (ok_c_StringUTF16_indexOfCharUnsafe_v1 hc) cs_RJ2_244 ⟨Nat.le_of_ble_eq_true rfl, Nat.le_of_ble_eq_true rfl⟩ rfl hl.1 (Nat.le_of_ble_eq_true rfl) (dck_at da_J2_indexOfChar_4cfef 8 rfl)) (fun H locs Y => ?_)
  exact gr_iretO X Y h hr rfl hlk (dck_at da_J2_indexOfChar_4cfef 9 rfl)
set_option maxRecDepth 100000 in
set_option maxHeartbeats 4000000 in
theorem ok_c_StringUTF16_indexOf_v1 {l : Launch} {D : va_G} {cy : Nat → ClassId} {ad sa : Nat → Nat} {A : Nat → Prop} {F : Nat} {a1 : Int32} {a2 : Int32} {a3 : Int32} {s0 : St} {ρ : Int32} {σ' : St} (h : c_StringUTF16_indexOf_v1 F a1 a2 a3 s0 = some (ρ, σ')) : gMi l shC D cy ad sa A yJ2_indexOf_4cfef cJ2_indexOf_4cfef 4 (some .int) 4 [.ref (sa 5), .int a1, .int a2, .int a3] s0 ρ σ' := by
  refine gM_of (by decide) (Nat.le_of_ble_eq_true rfl) ?_
  intro p e s m args below meth c ls X G Y hr hlk hl
  have hl : lv_has ls 4 [(0, .ref (sa 5)), (1, .int a1), (2, .int a2), (3, .int a3)] := hl
  unfold c_StringUTF16_indexOf_v1 at h
  refine lv_iload_n X.1 X.2.1 (dck_at da_J2_indexOf_4cfef 0 rfl) rfl (lv_at hl 2 rfl) ?_
  refine lv_iconst X.1 X.2.1 (dck_at da_J2_indexOf_4cfef 1 rfl) ki_0 ?_
  refine gr_mmax X hl.1 wm_493 wm_482 wm_62 wm_483 ⟨Nat.le_of_ble_eq_true rfl, Nat.le_of_ble_eq_true rfl⟩ (dck_at da_J2_indexOf_4cfef 2 rfl) ?_
  refine lv_istore_n (lv' := [(2, .int (gMmax a2 (0 : Int32))), (0, .ref (sa 5)), (1, .int a1), (3, .int a3)]) X.1 X.2.1 (dck_at da_J2_indexOf_4cfef 3 rfl) rfl hl (by decide) rfl (fun ls hl => ?_)
  refine lv_iload_n X.1 X.2.1 (dck_at da_J2_indexOf_4cfef 4 rfl) rfl (lv_at hl 3 rfl) ?_
  refine lv_aload_n X.1 X.2.1 (dck_at da_J2_indexOf_4cfef 5 rfl) rfl (lv_at hl 1 rfl) ?_
  refine gr_tlen5 X G Y (dck_at da_J2_indexOf_4cfef 6 rfl) ?_
  refine lv_iconst X.1 X.2.1 (dck_at da_J2_indexOf_4cfef 7 rfl) ki_1 ?_
  refine lv_ishr X.1 X.2.1 (dck_at da_J2_indexOf_4cfef 8 rfl) ?_
  refine gr_mmin X hl.1 wm_494 wm_485 wm_62 wm_486 ⟨Nat.le_of_ble_eq_true rfl, Nat.le_of_ble_eq_true rfl⟩ (dck_at da_J2_indexOf_4cfef 9 rfl) ?_
  refine lv_istore_n (lv' := [(3, .int (gMmin a3 ((6 : Int32) >>> ((1 : Int32) &&& 31)))), (2, .int (gMmax a2 (0 : Int32))), (0, .ref (sa 5)), (1, .int a1)]) X.1 X.2.1 (dck_at da_J2_indexOf_4cfef 10 rfl) rfl hl (by decide) rfl (fun ls hl => ?_)
  refine lv_iload_n X.1 X.2.1 (dck_at da_J2_indexOf_4cfef 11 rfl) rfl (lv_at hl 1 rfl) ?_
  refine lv_iload_n X.1 X.2.1 (dck_at da_J2_indexOf_4cfef 12 rfl) rfl (lv_at hl 0 rfl) ?_
  refine lv_icmp_lt (tgt := 22) X.1 X.2.1 (dck_at da_J2_indexOf_4cfef 13 rfl) rfl (fun c => ?_) (fun c => ?_)
  · have h := gI_pos h c
    refine lv_iload_n X.1 X.2.1 (dck_at da_J2_indexOf_4cfef 16 rfl) rfl (lv_at hl 3 rfl) ?_
    refine lv_ldc X.1 X.2.1 X.2.2.2.1 (X.2.2.2.2 _ wm_495) (dck_at da_J2_indexOf_4cfef 17 rfl) ?_
    refine lv_icmp_ge (tgt := 36) X.1 X.2.1 (dck_at da_J2_indexOf_4cfef 18 rfl) rfl (fun c => ?_) (fun c => ?_)
    · have h := gI_pos h c
      refine lv_aload_n X.1 X.2.1 (dck_at da_J2_indexOf_4cfef 25 rfl) rfl (lv_at hl 2 rfl) ?_
      refine lv_iload_n X.1 X.2.1 (dck_at da_J2_indexOf_4cfef 26 rfl) rfl (lv_at hl 3 rfl) ?_
      refine lv_iload_n X.1 X.2.1 (dck_at da_J2_indexOf_4cfef 27 rfl) rfl (lv_at hl 1 rfl) ?_
      refine lv_iload_n X.1 X.2.1 (dck_at da_J2_indexOf_4cfef 28 rfl) rfl (lv_at hl 0 rfl) ?_
      obtain ⟨r1, s1, hc, h⟩ := gB2_some h
      refine gr_backi Y (gr_runS (as := [.ref (sa 5), .int a1, .int (gMmax a2 (0 : Int32)), .int (gMmin a3 ((6 : Int32) >>> ((1 : Int32) &&& 31)))]) (rest := []) X G Y (ok_c_StringUTF16_indexOfSupplementary_v1 hc) cs_RJ2_232 ⟨Nat.le_of_ble_eq_true rfl, Nat.le_of_ble_eq_true rfl⟩ rfl hl.1 (Nat.le_of_ble_eq_true rfl) (dck_at da_J2_indexOf_4cfef 29 rfl)) (fun H locs Y => ?_)
      exact gr_iretO X Y h hr rfl hlk (dck_at da_J2_indexOf_4cfef 30 rfl)
    · have h := gI_neg h c
      refine lv_aload_n X.1 X.2.1 (dck_at da_J2_indexOf_4cfef 19 rfl) rfl (lv_at hl 2 rfl) ?_
      refine lv_iload_n X.1 X.2.1 (dck_at da_J2_indexOf_4cfef 20 rfl) rfl (lv_at hl 3 rfl) ?_
      refine lv_iload_n X.1 X.2.1 (dck_at da_J2_indexOf_4cfef 21 rfl) rfl (lv_at hl 1 rfl) ?_
      refine lv_iload_n X.1 X.2.1 (dck_at da_J2_indexOf_4cfef 22 rfl) rfl (lv_at hl 0 rfl) ?_
      obtain ⟨r2, s2, hc, h⟩ := gB2_some h
      refine gr_backi Y (gr_runS (as := [.ref (sa 5), .int a1, .int (gMmax a2 (0 : Int32)), .int (gMmin a3 ((6 : Int32) >>> ((1 : Int32) &&& 31)))]) (rest := []) X G Y (ok_c_StringUTF16_indexOfChar_v1 hc) cs_RJ2_228 ⟨Nat.le_of_ble_eq_true rfl, Nat.le_of_ble_eq_true rfl⟩ rfl hl.1 (Nat.le_of_ble_eq_true rfl) (dck_at da_J2_indexOf_4cfef 23 rfl)) (fun H locs Y => ?_)
      exact gr_iretO X Y h hr rfl hlk (dck_at da_J2_indexOf_4cfef 24 rfl)
  · have h := gI_neg h c
    refine lv_iconst X.1 X.2.1 (dck_at da_J2_indexOf_4cfef 14 rfl) ki_m1 ?_
    exact gr_iretO X Y h hr rfl hlk (dck_at da_J2_indexOf_4cfef 15 rfl)
set_option maxRecDepth 100000 in
set_option maxHeartbeats 4000000 in
theorem ok_c_StringLatin1_indexOfChar_v1 {l : Launch} {D : va_G} {cy : Nat → ClassId} {ad sa : Nat → Nat} {A : Nat → Prop} {F : Nat} {a1 : Int32} {a2 : Int32} {a3 : Int32} {s0 : St} {ρ : Int32} {σ' : St} (h : c_StringLatin1_indexOfChar_v1 F a1 a2 a3 s0 = some (ρ, σ')) : gMi l shC D cy ad sa A yJ1_indexOfChar_4cfef cJ1_indexOfChar_4cfef 6 (some .int) 1 [.ref (sa 5), .int a1, .int a2, .int a3] s0 ρ σ' := by
  refine gM_of (by decide) (Nat.le_of_ble_eq_true rfl) ?_
  intro p e s m args below meth c ls X G Y hr hlk hl
  have hl : lv_has ls 6 [(0, .ref (sa 5)), (1, .int a1), (2, .int a2), (3, .int a3)] := hl
  have b7 : ∀ n : Nat, ∀ (x3 : Int32) (x4 : Int32) (x5 : Int32) (s0 : St) (H : Heap) (locs : List Loc) (ls : Array Slot), c_StringLatin1_indexOfChar_v1_L7 F  n x3 x4 x5 s0 = some (ρ, σ') → gY shC D cy ad A s0 s H locs → lv_has ls 6 [(0, .ref (sa 5)), (3, .int x3), (4, .int x4), (5, .int x5)] → W p l e (grm 1) s m args below meth c H locs 0 0 (MQ below (va_Qi (fun (q : Int32) (_ : Unit) => q = ρ) (fun _ t => va_P D vwCl (gWl shC cy ad σ') t.heap) A) args s 0 0 A) (F0 m 7 ls []) := by
    intro n
    induction n with
    | zero => intro x3 x4 x5 s0 H locs ls h Y hl; exact (gnone h).elim
    | succ n hk7 =>
      have e : c_StringLatin1_indexOfChar_v1_L7 F  (n + 1) = c_StringLatin1_indexOfChar_v1_L7b F  (c_StringLatin1_indexOfChar_v1_L7 F  n) := rfl
      rw [e]; clear e
      generalize c_StringLatin1_indexOfChar_v1_L7 F  n = k7 at hk7 ⊢
      intro x3 x4 x5 s0 H locs ls h Y hl
      unfold c_StringLatin1_indexOfChar_v1_L7b at h
      refine lv_iload X.1 X.2.1 (dck_at da_J1_indexOfChar_4cfef 5 rfl) (lv_at hl 3 rfl) ?_
      refine lv_iload_n X.1 X.2.1 (dck_at da_J1_indexOfChar_4cfef 6 rfl) rfl (lv_at hl 1 rfl) ?_
      refine lv_icmp_ge (tgt := 31) X.1 X.2.1 (dck_at da_J1_indexOfChar_4cfef 7 rfl) rfl (fun c => ?_) (fun c => ?_)
      · have h := gI_pos h c
        refine lv_iconst X.1 X.2.1 (dck_at da_J1_indexOfChar_4cfef 17 rfl) ki_m1 ?_
        exact gr_iretO X Y h hr rfl hlk (dck_at da_J1_indexOfChar_4cfef 18 rfl)
      · have h := gI_neg h c
        refine lv_aload_n X.1 X.2.1 (dck_at da_J1_indexOfChar_4cfef 8 rfl) rfl (lv_at hl 0 rfl) ?_
        refine lv_iload X.1 X.2.1 (dck_at da_J1_indexOfChar_4cfef 9 rfl) (lv_at hl 3 rfl) ?_
        obtain ⟨hin, h⟩ := gI_if h
        refine gr_tald5 X G Y hin (dck_at da_J1_indexOfChar_4cfef 10 rfl) ?_
        refine lv_iload X.1 X.2.1 (dck_at da_J1_indexOfChar_4cfef 11 rfl) (lv_at hl 2 rfl) ?_
        refine lv_icmp_ne (tgt := 25) X.1 X.2.1 (dck_at da_J1_indexOfChar_4cfef 12 rfl) rfl (fun c => ?_) (fun c => ?_)
        · have h := gI_neg h c
          refine lv_iinc (v := x5 + (1 : Int32)) (lv' := [(5, .int (x5 + (1 : Int32))), (0, .ref (sa 5)), (3, .int x3), (4, .int x4)]) X.1 X.2.1 (dck_at da_J1_indexOfChar_4cfef 15 rfl) hl (k := 3) rfl (congrArg (HAdd.hAdd _) ki_1) (by decide) rfl (fun ls hl => ?_)
          refine lv_goto (tgt := 7) X.1 X.2.1 (dck_at da_J1_indexOfChar_4cfef 16 rfl) rfl ?_
          exact hk7 x3 x4 (x5 + (1 : Int32)) s0 _ _ _ h Y (lv_sub hl [1, 2, 3, 0] rfl)
        · have h := gI_pos h c
          refine lv_iload X.1 X.2.1 (dck_at da_J1_indexOfChar_4cfef 13 rfl) (lv_at hl 3 rfl) ?_
          exact gr_iretO X Y h hr rfl hlk (dck_at da_J1_indexOfChar_4cfef 14 rfl)
  unfold c_StringLatin1_indexOfChar_v1 at h
  refine lv_iload_n X.1 X.2.1 (dck_at da_J1_indexOfChar_4cfef 0 rfl) rfl (lv_at hl 1 rfl) ?_
  refine lv_i2b (v := (a1).toInt8.toInt32) X.1 X.2.1 (dck_at da_J1_indexOfChar_4cfef 1 rfl) rfl ?_
  refine lv_istore (lv' := [(4, .int ((a1).toInt8.toInt32)), (0, .ref (sa 5)), (1, .int a1), (2, .int a2), (3, .int a3)]) X.1 X.2.1 (dck_at da_J1_indexOfChar_4cfef 2 rfl) hl (by decide) rfl (fun ls hl => ?_)
  refine lv_iload_n X.1 X.2.1 (dck_at da_J1_indexOfChar_4cfef 3 rfl) rfl (lv_at hl 3 rfl) ?_
  refine lv_istore (lv' := [(5, .int a2), (4, .int ((a1).toInt8.toInt32)), (0, .ref (sa 5)), (1, .int a1), (2, .int a2), (3, .int a3)]) X.1 X.2.1 (dck_at da_J1_indexOfChar_4cfef 4 rfl) hl (by decide) rfl (fun ls hl => ?_)
  exact b7 F a3 ((a1).toInt8.toInt32) a2 s0 _ _ _ h Y (lv_sub hl [2, 5, 1, 0] rfl)
set_option maxRecDepth 100000 in
set_option maxHeartbeats 4000000 in
theorem ok_c_StringLatin1_indexOf_v1 {l : Launch} {D : va_G} {cy : Nat → ClassId} {ad sa : Nat → Nat} {A : Nat → Prop} {F : Nat} {a1 : Int32} {a2 : Int32} {a3 : Int32} {s0 : St} {ρ : Int32} {σ' : St} (h : c_StringLatin1_indexOf_v1 F a1 a2 a3 s0 = some (ρ, σ')) : gMi l shC D cy ad sa A yJ1_indexOf_4cfef cJ1_indexOf_4cfef 4 (some .int) 2 [.ref (sa 5), .int a1, .int a2, .int a3] s0 ρ σ' := by
  refine gM_of (by decide) (Nat.le_of_ble_eq_true rfl) ?_
  intro p e s m args below meth c ls X G Y hr hlk hl
  have hl : lv_has ls 4 [(0, .ref (sa 5)), (1, .int a1), (2, .int a2), (3, .int a3)] := hl
  unfold c_StringLatin1_indexOf_v1 at h
  refine lv_iload_n X.1 X.2.1 (dck_at da_J1_indexOf_4cfef 0 rfl) rfl (lv_at hl 1 rfl) ?_
  obtain ⟨r1, s1, hc, h⟩ := gB2_some h
  refine gr_backi Y (gr_runS (as := [.int a1]) (rest := []) X G Y (ok_c_StringLatin1_canEncode hc) cs_RJ1_88 ⟨Nat.le_of_ble_eq_true rfl, Nat.le_of_ble_eq_true rfl⟩ rfl hl.1 (Nat.le_of_ble_eq_true rfl) (dck_at da_J1_indexOf_4cfef 1 rfl)) (fun H locs Y => ?_)
  refine lv_if_ne (tgt := 9) X.1 X.2.1 (dck_at da_J1_indexOf_4cfef 2 rfl) rfl (fun c => ?_) (fun c => ?_)
  · have h := gI_neg h c
    refine lv_iload_n X.1 X.2.1 (dck_at da_J1_indexOf_4cfef 5 rfl) rfl (lv_at hl 2 rfl) ?_
    refine lv_iconst X.1 X.2.1 (dck_at da_J1_indexOf_4cfef 6 rfl) ki_0 ?_
    refine gr_mmax X hl.1 wm_481 wm_482 wm_62 wm_483 ⟨Nat.le_of_ble_eq_true rfl, Nat.le_of_ble_eq_true rfl⟩ (dck_at da_J1_indexOf_4cfef 7 rfl) ?_
    refine lv_istore_n (lv' := [(2, .int (gMmax a2 (0 : Int32))), (0, .ref (sa 5)), (1, .int a1), (3, .int a3)]) X.1 X.2.1 (dck_at da_J1_indexOf_4cfef 8 rfl) rfl hl (by decide) rfl (fun ls hl => ?_)
    refine lv_iload_n X.1 X.2.1 (dck_at da_J1_indexOf_4cfef 9 rfl) rfl (lv_at hl 3 rfl) ?_
    refine lv_aload_n X.1 X.2.1 (dck_at da_J1_indexOf_4cfef 10 rfl) rfl (lv_at hl 1 rfl) ?_
    refine gr_tlen5 X G Y (dck_at da_J1_indexOf_4cfef 11 rfl) ?_
    refine gr_mmin X hl.1 wm_484 wm_485 wm_62 wm_486 ⟨Nat.le_of_ble_eq_true rfl, Nat.le_of_ble_eq_true rfl⟩ (dck_at da_J1_indexOf_4cfef 12 rfl) ?_
    refine lv_istore_n (lv' := [(3, .int (gMmin a3 (6 : Int32))), (2, .int (gMmax a2 (0 : Int32))), (0, .ref (sa 5)), (1, .int a1)]) X.1 X.2.1 (dck_at da_J1_indexOf_4cfef 13 rfl) rfl hl (by decide) rfl (fun ls hl => ?_)
    refine lv_iload_n X.1 X.2.1 (dck_at da_J1_indexOf_4cfef 14 rfl) rfl (lv_at hl 1 rfl) ?_
    refine lv_iload_n X.1 X.2.1 (dck_at da_J1_indexOf_4cfef 15 rfl) rfl (lv_at hl 0 rfl) ?_
    refine lv_icmp_lt (tgt := 29) X.1 X.2.1 (dck_at da_J1_indexOf_4cfef 16 rfl) rfl (fun c => ?_) (fun c => ?_)
    · have h := gI_pos h c
      refine lv_aload_n X.1 X.2.1 (dck_at da_J1_indexOf_4cfef 19 rfl) rfl (lv_at hl 2 rfl) ?_
      refine lv_iload_n X.1 X.2.1 (dck_at da_J1_indexOf_4cfef 20 rfl) rfl (lv_at hl 3 rfl) ?_
      refine lv_iload_n X.1 X.2.1 (dck_at da_J1_indexOf_4cfef 21 rfl) rfl (lv_at hl 1 rfl) ?_
      refine lv_iload_n X.1 X.2.1 (dck_at da_J1_indexOf_4cfef 22 rfl) rfl (lv_at hl 0 rfl) ?_
      obtain ⟨r2, s2, hc, h⟩ := gB2_some h
      refine gr_backi Y (gr_runS (as := [.ref (sa 5), .int a1, .int (gMmax a2 (0 : Int32)), .int (gMmin a3 (6 : Int32))]) (rest := []) X G Y (ok_c_StringLatin1_indexOfChar_v1 hc) cs_RJ1_95 ⟨Nat.le_of_ble_eq_true rfl, Nat.le_of_ble_eq_true rfl⟩ rfl hl.1 (Nat.le_of_ble_eq_true rfl) (dck_at da_J1_indexOf_4cfef 23 rfl)) (fun H locs Y => ?_)
      exact gr_iretO X Y h hr rfl hlk (dck_at da_J1_indexOf_4cfef 24 rfl)
    · have h := gI_neg h c
      refine lv_iconst X.1 X.2.1 (dck_at da_J1_indexOf_4cfef 17 rfl) ki_m1 ?_
      exact gr_iretO X Y h hr rfl hlk (dck_at da_J1_indexOf_4cfef 18 rfl)
  · have h := gI_pos h c
    refine lv_iconst X.1 X.2.1 (dck_at da_J1_indexOf_4cfef 3 rfl) ki_m1 ?_
    exact gr_iretO X Y h hr rfl hlk (dck_at da_J1_indexOf_4cfef 4 rfl)
set_option maxRecDepth 100000 in
set_option maxHeartbeats 4000000 in
theorem ok_c_String_indexOf_7cf53_v1 {l : Launch} {D : va_G} {cy : Nat → ClassId} {ad sa : Nat → Nat} {A : Nat → Prop} {F : Nat} {a1 : Int32} {a2 : Int32} {s0 : St} {ρ : Int32} {σ' : St} (h : c_String_indexOf_7cf53_v1 F a1 a2 s0 = some (ρ, σ')) : gMi l shC D cy ad sa A yJ0_indexOf_7cf53 cJ0_indexOf_7cf53 3 (some .int) 5 [.ref (sa 3), .int a1, .int a2] s0 ρ σ' := by
  refine gM_of (by decide) (Nat.le_of_ble_eq_true rfl) ?_
  intro p e s m args below meth c ls X G Y hr hlk hl
  have hl : lv_has ls 3 [(0, .ref (sa 3)), (1, .int a1), (2, .int a2)] := hl
  unfold c_String_indexOf_7cf53_v1 at h
  refine lv_aload_n X.1 X.2.1 (dck_at da_J0_indexOf_7cf53 0 rfl) rfl (lv_at hl 0 rfl) ?_
  obtain ⟨r1, s1, hc, h⟩ := gB2_some h
  refine gr_backi Y (gr_runW3 (as := []) (rest := []) X G Y (ok_c_String_isLatin1_v1 hc) cv_RJ0_492 ⟨Nat.le_of_ble_eq_true rfl, Nat.le_of_ble_eq_true rfl⟩ rfl hl.1 (Nat.le_of_ble_eq_true rfl) (dck_at da_J0_indexOf_7cf53 1 rfl)) (fun H locs Y => ?_)
  refine lv_if_eq (tgt := 23) X.1 X.2.1 (dck_at da_J0_indexOf_7cf53 2 rfl) rfl (fun c => ?_) (fun c => ?_)
  · have h := gI_pos h c
    refine lv_aload_n X.1 X.2.1 (dck_at da_J0_indexOf_7cf53 11 rfl) rfl (lv_at hl 0 rfl) ?_
    refine gr_getV3 X G Y wm_1632 (dck_at da_J0_indexOf_7cf53 12 rfl) ?_
    refine lv_iload_n X.1 X.2.1 (dck_at da_J0_indexOf_7cf53 13 rfl) rfl (lv_at hl 1 rfl) ?_
    refine lv_iload_n X.1 X.2.1 (dck_at da_J0_indexOf_7cf53 14 rfl) rfl (lv_at hl 2 rfl) ?_
    refine lv_aload_n X.1 X.2.1 (dck_at da_J0_indexOf_7cf53 15 rfl) rfl (lv_at hl 0 rfl) ?_
    obtain ⟨r2, s2, hc, h⟩ := gB2_some h
    refine gr_backi Y (gr_runW3 (as := []) (rest := [.int a2, .int a1, .ref (sa 5)]) X G Y (ok_c_String_length_v1 hc) cv_RJ0_505 ⟨Nat.le_of_ble_eq_true rfl, Nat.le_of_ble_eq_true rfl⟩ rfl hl.1 (Nat.le_of_ble_eq_true rfl) (dck_at da_J0_indexOf_7cf53 16 rfl)) (fun H locs Y => ?_)
    obtain ⟨r3, s3, hc, h⟩ := gB2_some h
    refine gr_backi Y (gr_runS (as := [.ref (sa 5), .int a1, .int a2, .int r2]) (rest := []) X G Y (ok_c_StringUTF16_indexOf_v1 hc) cs_RJ0_640 ⟨Nat.le_of_ble_eq_true rfl, Nat.le_of_ble_eq_true rfl⟩ rfl hl.1 (Nat.le_of_ble_eq_true rfl) (dck_at da_J0_indexOf_7cf53 17 rfl)) (fun H locs Y => ?_)
    exact gr_iretO X Y h hr rfl hlk (dck_at da_J0_indexOf_7cf53 18 rfl)
  · have h := gI_neg h c
    refine lv_aload_n X.1 X.2.1 (dck_at da_J0_indexOf_7cf53 3 rfl) rfl (lv_at hl 0 rfl) ?_
    refine gr_getV3 X G Y wm_1632 (dck_at da_J0_indexOf_7cf53 4 rfl) ?_
    refine lv_iload_n X.1 X.2.1 (dck_at da_J0_indexOf_7cf53 5 rfl) rfl (lv_at hl 1 rfl) ?_
    refine lv_iload_n X.1 X.2.1 (dck_at da_J0_indexOf_7cf53 6 rfl) rfl (lv_at hl 2 rfl) ?_
    refine lv_aload_n X.1 X.2.1 (dck_at da_J0_indexOf_7cf53 7 rfl) rfl (lv_at hl 0 rfl) ?_
    obtain ⟨r4, s4, hc, h⟩ := gB2_some h
    refine gr_backi Y (gr_runW3 (as := []) (rest := [.int a2, .int a1, .ref (sa 5)]) X G Y (ok_c_String_length_v1 hc) cv_RJ0_505 ⟨Nat.le_of_ble_eq_true rfl, Nat.le_of_ble_eq_true rfl⟩ rfl hl.1 (Nat.le_of_ble_eq_true rfl) (dck_at da_J0_indexOf_7cf53 8 rfl)) (fun H locs Y => ?_)
    obtain ⟨r5, s5, hc, h⟩ := gB2_some h
    refine gr_backi Y (gr_runS (as := [.ref (sa 5), .int a1, .int a2, .int r4]) (rest := []) X G Y (ok_c_StringLatin1_indexOf_v1 hc) cs_RJ0_637 ⟨Nat.le_of_ble_eq_true rfl, Nat.le_of_ble_eq_true rfl⟩ rfl hl.1 (Nat.le_of_ble_eq_true rfl) (dck_at da_J0_indexOf_7cf53 9 rfl)) (fun H locs Y => ?_)
    refine lv_goto (tgt := 36) X.1 X.2.1 (dck_at da_J0_indexOf_7cf53 10 rfl) rfl ?_
    exact gr_iretO X Y h hr rfl hlk (dck_at da_J0_indexOf_7cf53 18 rfl)
set_option maxRecDepth 100000 in
set_option maxHeartbeats 4000000 in
theorem ok_c_String_indexOf_0f7a4_v1 {l : Launch} {D : va_G} {cy : Nat → ClassId} {ad sa : Nat → Nat} {A : Nat → Prop} {F : Nat} {a1 : Int32} {s0 : St} {ρ : Int32} {σ' : St} (h : c_String_indexOf_0f7a4_v1 F a1 s0 = some (ρ, σ')) : gMi l shC D cy ad sa A yJ0_indexOf_0f7a4 cJ0_indexOf_0f7a4 2 (some .int) 6 [.ref (sa 3), .int a1] s0 ρ σ' := by
  refine gM_of (by decide) (Nat.le_of_ble_eq_true rfl) ?_
  intro p e s m args below meth c ls X G Y hr hlk hl
  have hl : lv_has ls 2 [(0, .ref (sa 3)), (1, .int a1)] := hl
  unfold c_String_indexOf_0f7a4_v1 at h
  refine lv_aload_n X.1 X.2.1 (dck_at da_J0_indexOf_0f7a4 0 rfl) rfl (lv_at hl 0 rfl) ?_
  refine lv_iload_n X.1 X.2.1 (dck_at da_J0_indexOf_0f7a4 1 rfl) rfl (lv_at hl 1 rfl) ?_
  refine lv_iconst X.1 X.2.1 (dck_at da_J0_indexOf_0f7a4 2 rfl) ki_0 ?_
  obtain ⟨r1, s1, hc, h⟩ := gB2_some h
  refine gr_backi Y (gr_runW3 (as := [.int a1, .int (0 : Int32)]) (rest := []) X G Y (ok_c_String_indexOf_7cf53_v1 hc) cv_RJ0_633 ⟨Nat.le_of_ble_eq_true rfl, Nat.le_of_ble_eq_true rfl⟩ rfl hl.1 (Nat.le_of_ble_eq_true rfl) (dck_at da_J0_indexOf_0f7a4 3 rfl)) (fun H locs Y => ?_)
  exact gr_iretO X Y h hr rfl hlk (dck_at da_J0_indexOf_0f7a4 4 rfl)
set_option maxRecDepth 100000 in
set_option maxHeartbeats 4000000 in
theorem ok_c_Tape_lawFault {l : Launch} {D : va_G} {cy : Nat → ClassId} {ad sa : Nat → Nat} {A : Nat → Prop} {F : Nat}  {s0 : St} {ρ : Int32} {σ' : St} (h : c_Tape_lawFault F s0 = some (ρ, σ')) : gMi l shC D cy ad sa A yX9_lawFault cX9_lawFault 5 (some .int) 7 [.ref (ad 74)] s0 ρ σ' := by
  refine gM_of (by decide) (Nat.le_of_ble_eq_true rfl) ?_
  intro p e s m args below meth c ls X G Y hr hlk hl
  have hl : lv_has ls 5 [(0, .ref (ad 74))] := hl
  have b106 : ∀  (s0 : St) (H : Heap) (locs : List Loc) (ls : Array Slot), c_Tape_lawFault_J106 F  s0 = some (ρ, σ') → gY shC D cy ad A s0 s H locs → lv_has ls 5 [(0, .ref (ad 74))] → W p l e (grm 7) s m args below meth c H locs 0 0 (MQ below (va_Qi (fun (q : Int32) (_ : Unit) => q = ρ) (fun _ t => va_P D vwCl (gWl shC cy ad σ') t.heap) A) args s 0 0 A) (F0 m 106 ls []) := by
    intro s0 H locs ls h Y hl
    unfold c_Tape_lawFault_J106 at h
    refine lv_aload_n X.1 X.2.1 (dck_at da_X9_lawFault 62 rfl) rfl (lv_at hl 0 rfl) ?_
    refine gr_getI X G Y fk_RX9_15 clC_74 rfl (dck_at da_X9_lawFault 63 rfl) ?_
    exact gr_iretO X Y h hr rfl hlk (dck_at da_X9_lawFault 64 rfl)
  have b6 : ∀ n : Nat, ∀ (x1 : Int32) (x2 : Int32) (x3 : Int32) (s0 : St) (H : Heap) (locs : List Loc) (ls : Array Slot), c_Tape_lawFault_L6 F  n x1 x2 x3 s0 = some (ρ, σ') → gY shC D cy ad A s0 s H locs → lv_has ls 5 [(0, .ref (ad 74)), (1, .int x1), (2, .int x2), (3, .int x3)] → W p l e (grm 7) s m args below meth c H locs 0 0 (MQ below (va_Qi (fun (q : Int32) (_ : Unit) => q = ρ) (fun _ t => va_P D vwCl (gWl shC cy ad σ') t.heap) A) args s 0 0 A) (F0 m 6 ls []) := by
    intro n
    induction n with
    | zero => intro x1 x2 x3 s0 H locs ls h Y hl; exact (gnone h).elim
    | succ n hk6 =>
      have e : c_Tape_lawFault_L6 F  (n + 1) = c_Tape_lawFault_L6b F  (c_Tape_lawFault_L6 F  n) := rfl
      rw [e]; clear e
      generalize c_Tape_lawFault_L6 F  n = k6 at hk6 ⊢
      have b88 : ∀ (x1 : Int32) (x2 : Int32) (x3 : Int32) (s0 : St) (H : Heap) (locs : List Loc) (ls : Array Slot), c_Tape_lawFault_J88 F k6 x1 x2 x3 s0 = some (ρ, σ') → gY shC D cy ad A s0 s H locs → lv_has ls 5 [(0, .ref (ad 74)), (1, .int x1), (2, .int x2), (3, .int x3)] → W p l e (grm 7) s m args below meth c H locs 0 0 (MQ below (va_Qi (fun (q : Int32) (_ : Unit) => q = ρ) (fun _ t => va_P D vwCl (gWl shC cy ad σ') t.heap) A) args s 0 0 A) (F0 m 88 ls []) := by
        intro x1 x2 x3 s0 H locs ls h Y hl
        unfold c_Tape_lawFault_J88 at h
        refine lv_iinc (v := x3 + (1 : Int32)) (lv' := [(3, .int (x3 + (1 : Int32))), (0, .ref (ad 74)), (1, .int x1), (2, .int x2)]) X.1 X.2.1 (dck_at da_X9_lawFault 54 rfl) hl (k := 3) rfl (congrArg (HAdd.hAdd _) ki_1) (by decide) rfl (fun ls hl => ?_)
        refine lv_goto (tgt := 6) X.1 X.2.1 (dck_at da_X9_lawFault 55 rfl) rfl ?_
        exact hk6 x1 x2 (x3 + (1 : Int32)) s0 _ _ _ h Y (lv_sub hl [1, 2, 3, 0] rfl)
      have b87 : ∀ (x1 : Int32) (x3 : Int32) (y0 : Int32) (s0 : St) (H : Heap) (locs : List Loc) (ls : Array Slot), c_Tape_lawFault_J87 F k6 x1 x3 y0 s0 = some (ρ, σ') → gY shC D cy ad A s0 s H locs → lv_has ls 5 [(0, .ref (ad 74)), (1, .int x1), (3, .int x3)] → W p l e (grm 7) s m args below meth c H locs 0 0 (MQ below (va_Qi (fun (q : Int32) (_ : Unit) => q = ρ) (fun _ t => va_P D vwCl (gWl shC cy ad σ') t.heap) A) args s 0 0 A) (F0 m 87 ls [.int y0]) := by
        intro x1 x3 y0 s0 H locs ls h Y hl
        unfold c_Tape_lawFault_J87 at h
        refine lv_istore_n (lv' := [(2, .int y0), (0, .ref (ad 74)), (1, .int x1), (3, .int x3)]) X.1 X.2.1 (dck_at da_X9_lawFault 53 rfl) rfl hl (by decide) rfl (fun ls hl => ?_)
        exact b88 x1 y0 x3 s0 _ _ _ h Y (lv_sub hl [1, 2, 0, 3] rfl)
      have b78 : ∀ (x1 : Int32) (x2 : Int32) (x3 : Int32) (s0 : St) (H : Heap) (locs : List Loc) (ls : Array Slot), c_Tape_lawFault_J78 F k6 x1 x2 x3 s0 = some (ρ, σ') → gY shC D cy ad A s0 s H locs → lv_has ls 5 [(0, .ref (ad 74)), (1, .int x1), (2, .int x2), (3, .int x3)] → W p l e (grm 7) s m args below meth c H locs 0 0 (MQ below (va_Qi (fun (q : Int32) (_ : Unit) => q = ρ) (fun _ t => va_P D vwCl (gWl shC cy ad σ') t.heap) A) args s 0 0 A) (F0 m 78 ls []) := by
        intro x1 x2 x3 s0 H locs ls h Y hl
        unfold c_Tape_lawFault_J78 at h
        refine lv_iload_n X.1 X.2.1 (dck_at da_X9_lawFault 48 rfl) rfl (lv_at hl 2 rfl) ?_
        refine lv_if_ne (tgt := 86) X.1 X.2.1 (dck_at da_X9_lawFault 49 rfl) rfl (fun c => ?_) (fun c => ?_)
        · have h := gI_neg h c
          refine lv_iconst X.1 X.2.1 (dck_at da_X9_lawFault 52 rfl) ki_0 ?_
          exact b87 x1 x3 (0 : Int32) s0 _ _ _ h Y (lv_sub hl [0, 1, 3] rfl)
        · have h := gI_pos h c
          refine lv_iconst X.1 X.2.1 (dck_at da_X9_lawFault 50 rfl) ki_1 ?_
          refine lv_goto (tgt := 87) X.1 X.2.1 (dck_at da_X9_lawFault 51 rfl) rfl ?_
          exact b87 x1 x3 (1 : Int32) s0 _ _ _ h Y (lv_sub hl [0, 1, 3] rfl)
      intro x1 x2 x3 s0 H locs ls h Y hl
      unfold c_Tape_lawFault_L6b at h
      refine lv_iload_n X.1 X.2.1 (dck_at da_X9_lawFault 6 rfl) rfl (lv_at hl 3 rfl) ?_
      refine lv_aload_n X.1 X.2.1 (dck_at da_X9_lawFault 7 rfl) rfl (lv_at hl 0 rfl) ?_
      refine gr_getI X G Y fk_RX9_15 clC_74 rfl (dck_at da_X9_lawFault 8 rfl) ?_
      refine lv_icmp_ge (tgt := 94) X.1 X.2.1 (dck_at da_X9_lawFault 9 rfl) rfl (fun c => ?_) (fun c => ?_)
      · have h := gI_pos h c
        refine lv_iload_n X.1 X.2.1 (dck_at da_X9_lawFault 56 rfl) rfl (lv_at hl 1 rfl) ?_
        refine lv_if_eq (tgt := 106) X.1 X.2.1 (dck_at da_X9_lawFault 57 rfl) rfl (fun c => ?_) (fun c => ?_)
        · have h := gI_pos h c
          exact b106 s0 _ _ _ h Y (lv_sub hl [0] rfl)
        · have h := gI_neg h c
          refine lv_iload_n X.1 X.2.1 (dck_at da_X9_lawFault 58 rfl) rfl (lv_at hl 2 rfl) ?_
          refine lv_if_ne (tgt := 106) X.1 X.2.1 (dck_at da_X9_lawFault 59 rfl) rfl (fun c => ?_) (fun c => ?_)
          · have h := gI_neg h c
            exact b106 s0 _ _ _ h Y (lv_sub hl [0] rfl)
          · have h := gI_pos h c
            refine lv_iconst X.1 X.2.1 (dck_at da_X9_lawFault 60 rfl) ki_m1 ?_
            refine lv_goto (tgt := 110) X.1 X.2.1 (dck_at da_X9_lawFault 61 rfl) rfl ?_
            exact gr_iretO X Y h hr rfl hlk (dck_at da_X9_lawFault 64 rfl)
      · have h := gI_neg h c
        refine lv_aload_n X.1 X.2.1 (dck_at da_X9_lawFault 10 rfl) rfl (lv_at hl 0 rfl) ?_
        refine gr_getR X G Y fk_RX9_11 clC_74 rfl (dck_at da_X9_lawFault 11 rfl) ?_
        refine lv_iload_n X.1 X.2.1 (dck_at da_X9_lawFault 12 rfl) rfl (lv_at hl 3 rfl) ?_
        obtain ⟨hin, h⟩ := gI_if h
        refine gr_cald X G Y clC_75 hin (dck_at da_X9_lawFault 13 rfl) ?_
        refine lv_bipush X.1 X.2.1 (dck_at da_X9_lawFault 14 rfl) kb_32 ?_
        refine lv_icmp_ne (tgt := 28) X.1 X.2.1 (dck_at da_X9_lawFault 15 rfl) rfl (fun c => ?_) (fun c => ?_)
        · have h := gI_neg h c
          refine lv_iload_n X.1 X.2.1 (dck_at da_X9_lawFault 17 rfl) rfl (lv_at hl 2 rfl) ?_
          refine lv_if_eq (tgt := 42) X.1 X.2.1 (dck_at da_X9_lawFault 18 rfl) rfl (fun c => ?_) (fun c => ?_)
          · have h := gI_pos h c
            refine gr_ldcS3 X G Y (dck_at da_X9_lawFault 25 rfl) ?_
            refine lv_aload_n X.1 X.2.1 (dck_at da_X9_lawFault 26 rfl) rfl (lv_at hl 0 rfl) ?_
            refine gr_getR X G Y fk_RX9_11 clC_74 rfl (dck_at da_X9_lawFault 27 rfl) ?_
            refine lv_iload_n X.1 X.2.1 (dck_at da_X9_lawFault 28 rfl) rfl (lv_at hl 3 rfl) ?_
            obtain ⟨hin, h⟩ := gI_if h
            refine gr_cald X G Y clC_75 hin (dck_at da_X9_lawFault 29 rfl) ?_
            obtain ⟨r1, s1, hc, h⟩ := gB2_some h
            refine gr_backi Y (gr_runW3 (as := [.int (s0.1 75 (x3).toNatClampNeg)]) (rest := []) X G Y (ok_c_String_indexOf_0f7a4_v1 hc) cv_RX9_48 ⟨Nat.le_of_ble_eq_true rfl, Nat.le_of_ble_eq_true rfl⟩ rfl hl.1 (Nat.le_of_ble_eq_true rfl) (dck_at da_X9_lawFault 30 rfl)) (fun H locs Y => ?_)
            refine lv_istore (lv' := [(4, .int r1), (0, .ref (ad 74)), (1, .int x1), (2, .int x2), (3, .int x3)]) X.1 X.2.1 (dck_at da_X9_lawFault 31 rfl) hl (by decide) rfl (fun ls hl => ?_)
            refine lv_iload X.1 X.2.1 (dck_at da_X9_lawFault 32 rfl) (lv_at hl 0 rfl) ?_
            refine lv_if_lt (tgt := 69) X.1 X.2.1 (dck_at da_X9_lawFault 33 rfl) rfl (fun c => ?_) (fun c => ?_)
            · have h := gI_pos h c
              refine lv_iload_n X.1 X.2.1 (dck_at da_X9_lawFault 40 rfl) rfl (lv_at hl 4 rfl) ?_
              exact gr_iretO X Y h hr rfl hlk (dck_at da_X9_lawFault 41 rfl)
            · have h := gI_neg h c
              refine lv_iload_n X.1 X.2.1 (dck_at da_X9_lawFault 34 rfl) rfl (lv_at hl 2 rfl) ?_
              refine lv_iconst X.1 X.2.1 (dck_at da_X9_lawFault 35 rfl) ki_1 ?_
              refine lv_iload X.1 X.2.1 (dck_at da_X9_lawFault 36 rfl) (lv_at hl 0 rfl) ?_
              refine lv_ishl X.1 X.2.1 (dck_at da_X9_lawFault 37 rfl) ?_
              refine lv_iand X.1 X.2.1 (dck_at da_X9_lawFault 38 rfl) ?_
              refine lv_if_eq (tgt := 71) X.1 X.2.1 (dck_at da_X9_lawFault 39 rfl) rfl (fun c => ?_) (fun c => ?_)
              · have h := gI_pos h c
                refine lv_iload_n X.1 X.2.1 (dck_at da_X9_lawFault 42 rfl) rfl (lv_at hl 2 rfl) ?_
                refine lv_iconst X.1 X.2.1 (dck_at da_X9_lawFault 43 rfl) ki_1 ?_
                refine lv_iload X.1 X.2.1 (dck_at da_X9_lawFault 44 rfl) (lv_at hl 0 rfl) ?_
                refine lv_ishl X.1 X.2.1 (dck_at da_X9_lawFault 45 rfl) ?_
                refine lv_ior X.1 X.2.1 (dck_at da_X9_lawFault 46 rfl) ?_
                refine lv_istore_n (lv' := [(1, .int (x1 ||| ((1 : Int32) <<< (r1 &&& 31)))), (4, .int r1), (0, .ref (ad 74)), (2, .int x2), (3, .int x3)]) X.1 X.2.1 (dck_at da_X9_lawFault 47 rfl) rfl hl (by decide) rfl (fun ls hl => ?_)
                exact b78 (x1 ||| ((1 : Int32) <<< (r1 &&& 31))) x2 x3 s1 _ _ _ h Y (lv_sub hl [2, 0, 3, 4] rfl)
              · have h := gI_neg h c
                refine lv_iload_n X.1 X.2.1 (dck_at da_X9_lawFault 40 rfl) rfl (lv_at hl 4 rfl) ?_
                exact gr_iretO X Y h hr rfl hlk (dck_at da_X9_lawFault 41 rfl)
          · have h := gI_neg h c
            refine lv_aload_n X.1 X.2.1 (dck_at da_X9_lawFault 19 rfl) rfl (lv_at hl 0 rfl) ?_
            refine lv_iload_n X.1 X.2.1 (dck_at da_X9_lawFault 20 rfl) rfl (lv_at hl 3 rfl) ?_
            obtain ⟨r2, s2, hc, h⟩ := gB2_some h
            refine gr_backi Y (gr_runV (as := [.int x3]) (rest := []) X G Y (ok_c_Tape_digitAt hc) cv_RX9_42 clC_74 ⟨Nat.le_of_ble_eq_true rfl, Nat.le_of_ble_eq_true rfl⟩ rfl hl.1 (Nat.le_of_ble_eq_true rfl) (dck_at da_X9_lawFault 21 rfl)) (fun H locs Y => ?_)
            refine lv_if_ge (tgt := 78) X.1 X.2.1 (dck_at da_X9_lawFault 22 rfl) rfl (fun c => ?_) (fun c => ?_)
            · have h := gI_pos h c
              exact b78 x1 x2 x3 s2 _ _ _ h Y (lv_sub hl [0, 1, 2, 3] rfl)
            · have h := gI_neg h c
              refine lv_iload_n X.1 X.2.1 (dck_at da_X9_lawFault 23 rfl) rfl (lv_at hl 3 rfl) ?_
              exact gr_iretO X Y h hr rfl hlk (dck_at da_X9_lawFault 24 rfl)
        · have h := gI_pos h c
          refine lv_goto (tgt := 88) X.1 X.2.1 (dck_at da_X9_lawFault 16 rfl) rfl ?_
          exact b88 x1 x2 x3 s0 _ _ _ h Y (lv_sub hl [0, 1, 2, 3] rfl)
  unfold c_Tape_lawFault at h
  refine lv_iconst X.1 X.2.1 (dck_at da_X9_lawFault 0 rfl) ki_0 ?_
  refine lv_istore_n (lv' := [(1, .int (0 : Int32)), (0, .ref (ad 74))]) X.1 X.2.1 (dck_at da_X9_lawFault 1 rfl) rfl hl (by decide) rfl (fun ls hl => ?_)
  refine lv_iconst X.1 X.2.1 (dck_at da_X9_lawFault 2 rfl) ki_0 ?_
  refine lv_istore_n (lv' := [(2, .int (0 : Int32)), (1, .int (0 : Int32)), (0, .ref (ad 74))]) X.1 X.2.1 (dck_at da_X9_lawFault 3 rfl) rfl hl (by decide) rfl (fun ls hl => ?_)
  refine lv_iconst X.1 X.2.1 (dck_at da_X9_lawFault 4 rfl) ki_0 ?_
  refine lv_istore_n (lv' := [(3, .int (0 : Int32)), (2, .int (0 : Int32)), (1, .int (0 : Int32)), (0, .ref (ad 74))]) X.1 X.2.1 (dck_at da_X9_lawFault 5 rfl) rfl hl (by decide) rfl (fun ls hl => ?_)
  exact b6 F (0 : Int32) (0 : Int32) (0 : Int32) s0 _ _ _ h Y (lv_sub hl [3, 2, 1, 0] rfl)
set_option maxRecDepth 100000 in
set_option maxHeartbeats 4000000 in
theorem ok_c_Tape_layDown {l : Launch} {D : va_G} {cy : Nat → ClassId} {ad sa : Nat → Nat} {A : Nat → Prop} {F : Nat}  {s0 : St} {ρ : Int32} {σ' : St} (h : c_Tape_layDown F s0 = some (ρ, σ')) : gMi l shC D cy ad sa A yX9_layDown cX9_layDown 6 (some .int) 7 [.ref (ad 74), .ref (ad 6)] s0 ρ σ' := by
  refine gM_of (by decide) (Nat.le_of_ble_eq_true rfl) ?_
  intro p e s m args below meth c ls X G Y hr hlk hl
  have hl : lv_has ls 6 [(0, .ref (ad 74)), (1, .ref (ad 6))] := hl
  have b7 : ∀ n : Nat, ∀ (x2 : Int32) (x3 : Int32) (x4 : Int32) (s0 : St) (H : Heap) (locs : List Loc) (ls : Array Slot), c_Tape_layDown_L7 F  n x2 x3 x4 s0 = some (ρ, σ') → gY shC D cy ad A s0 s H locs → lv_has ls 6 [(0, .ref (ad 74)), (1, .ref (ad 6)), (2, .int x2), (3, .int x3), (4, .int x4)] → W p l e (grm 7) s m args below meth c H locs 0 0 (MQ below (va_Qi (fun (q : Int32) (_ : Unit) => q = ρ) (fun _ t => va_P D vwCl (gWl shC cy ad σ') t.heap) A) args s 0 0 A) (F0 m 7 ls []) := by
    intro n
    induction n with
    | zero => intro x2 x3 x4 s0 H locs ls h Y hl; exact (gnone h).elim
    | succ n hk7 =>
      have e : c_Tape_layDown_L7 F  (n + 1) = c_Tape_layDown_L7b F  (c_Tape_layDown_L7 F  n) := rfl
      rw [e]; clear e
      generalize c_Tape_layDown_L7 F  n = k7 at hk7 ⊢
      have b75 : ∀ (x2 : Int32) (x3 : Int32) (x4 : Int32) (s0 : St) (H : Heap) (locs : List Loc) (ls : Array Slot), c_Tape_layDown_J75 F k7 x2 x3 x4 s0 = some (ρ, σ') → gY shC D cy ad A s0 s H locs → lv_has ls 6 [(0, .ref (ad 74)), (1, .ref (ad 6)), (2, .int x2), (3, .int x3), (4, .int x4)] → W p l e (grm 7) s m args below meth c H locs 0 0 (MQ below (va_Qi (fun (q : Int32) (_ : Unit) => q = ρ) (fun _ t => va_P D vwCl (gWl shC cy ad σ') t.heap) A) args s 0 0 A) (F0 m 75 ls []) := by
        intro x2 x3 x4 s0 H locs ls h Y hl
        unfold c_Tape_layDown_J75 at h
        refine lv_iinc (v := x4 + (1 : Int32)) (lv' := [(4, .int (x4 + (1 : Int32))), (0, .ref (ad 74)), (1, .ref (ad 6)), (2, .int x2), (3, .int x3)]) X.1 X.2.1 (dck_at da_X9_layDown 39 rfl) hl (k := 4) rfl (congrArg (HAdd.hAdd _) ki_1) (by decide) rfl (fun ls hl => ?_)
        refine lv_goto (tgt := 7) X.1 X.2.1 (dck_at da_X9_layDown 40 rfl) rfl ?_
        exact hk7 x2 x3 (x4 + (1 : Int32)) s0 _ _ _ h Y (lv_sub hl [1, 2, 3, 4, 0] rfl)
      intro x2 x3 x4 s0 H locs ls h Y hl
      unfold c_Tape_layDown_L7b at h
      refine lv_iload X.1 X.2.1 (dck_at da_X9_layDown 6 rfl) (lv_at hl 4 rfl) ?_
      refine lv_aload_n X.1 X.2.1 (dck_at da_X9_layDown 7 rfl) rfl (lv_at hl 0 rfl) ?_
      refine gr_getI X G Y fk_RX9_15 clC_74 rfl (dck_at da_X9_layDown 8 rfl) ?_
      refine lv_icmp_ge (tgt := 81) X.1 X.2.1 (dck_at da_X9_layDown 9 rfl) rfl (fun c => ?_) (fun c => ?_)
      · have h := gI_pos h c
        refine lv_iload_n X.1 X.2.1 (dck_at da_X9_layDown 41 rfl) rfl (lv_at hl 3 rfl) ?_
        exact gr_iretO X Y h hr rfl hlk (dck_at da_X9_layDown 42 rfl)
      · have h := gI_neg h c
        refine lv_aload_n X.1 X.2.1 (dck_at da_X9_layDown 10 rfl) rfl (lv_at hl 0 rfl) ?_
        refine gr_getR X G Y fk_RX9_11 clC_74 rfl (dck_at da_X9_layDown 11 rfl) ?_
        refine lv_iload X.1 X.2.1 (dck_at da_X9_layDown 12 rfl) (lv_at hl 4 rfl) ?_
        obtain ⟨hin, h⟩ := gI_if h
        refine gr_cald X G Y clC_75 hin (dck_at da_X9_layDown 13 rfl) ?_
        refine lv_bipush X.1 X.2.1 (dck_at da_X9_layDown 14 rfl) kb_32 ?_
        refine lv_icmp_ne (tgt := 31) X.1 X.2.1 (dck_at da_X9_layDown 15 rfl) rfl (fun c => ?_) (fun c => ?_)
        · have h := gI_neg h c
          refine lv_aload_n X.1 X.2.1 (dck_at da_X9_layDown 17 rfl) rfl (lv_at hl 0 rfl) ?_
          refine lv_iload X.1 X.2.1 (dck_at da_X9_layDown 18 rfl) (lv_at hl 4 rfl) ?_
          obtain ⟨r1, s1, hc, h⟩ := gB2_some h
          refine gr_backi Y (gr_runV (as := [.int x4]) (rest := []) X G Y (ok_c_Tape_digitAt hc) cv_RX9_42 clC_74 ⟨Nat.le_of_ble_eq_true rfl, Nat.le_of_ble_eq_true rfl⟩ rfl hl.1 (Nat.le_of_ble_eq_true rfl) (dck_at da_X9_layDown 19 rfl)) (fun H locs Y => ?_)
          refine lv_istore (lv' := [(5, .int r1), (0, .ref (ad 74)), (1, .ref (ad 6)), (2, .int x2), (3, .int x3), (4, .int x4)]) X.1 X.2.1 (dck_at da_X9_layDown 20 rfl) hl (by decide) rfl (fun ls hl => ?_)
          refine lv_iload X.1 X.2.1 (dck_at da_X9_layDown 21 rfl) (lv_at hl 0 rfl) ?_
          refine lv_if_ge (tgt := 60) X.1 X.2.1 (dck_at da_X9_layDown 22 rfl) rfl (fun c => ?_) (fun c => ?_)
          · have h := gI_pos h c
            refine lv_iload_n X.1 X.2.1 (dck_at da_X9_layDown 31 rfl) rfl (lv_at hl 3 rfl) ?_
            refine lv_if_lt (tgt := 75) X.1 X.2.1 (dck_at da_X9_layDown 32 rfl) rfl (fun c => ?_) (fun c => ?_)
            · have h := gI_pos h c
              exact b75 x2 x3 x4 s1 _ _ _ h Y (lv_sub hl [1, 2, 3, 4, 5] rfl)
            · have h := gI_neg h c
              refine lv_aload_n X.1 X.2.1 (dck_at da_X9_layDown 33 rfl) rfl (lv_at hl 2 rfl) ?_
              refine gr_getR X G Y fk_RX9_61 clC_6 rfl (dck_at da_X9_layDown 34 rfl) ?_
              refine lv_iload_n X.1 X.2.1 (dck_at da_X9_layDown 35 rfl) rfl (lv_at hl 3 rfl) ?_
              refine lv_iload X.1 X.2.1 (dck_at da_X9_layDown 36 rfl) (lv_at hl 0 rfl) ?_
              obtain ⟨hin, h⟩ := gI_if h
              refine gr_iast X G Y clC_7 hin (dck_at da_X9_layDown 37 rfl) (fun H locs Y => ?_)
              refine lv_iinc (v := x3 + (1 : Int32)) (lv' := [(3, .int (x3 + (1 : Int32))), (5, .int r1), (0, .ref (ad 74)), (1, .ref (ad 6)), (2, .int x2), (4, .int x4)]) X.1 X.2.1 (dck_at da_X9_layDown 38 rfl) hl (k := 4) rfl (congrArg (HAdd.hAdd _) ki_1) (by decide) rfl (fun ls hl => ?_)
              exact b75 x2 (x3 + (1 : Int32)) x4 (sI s1 7 (x2).toNatClampNeg r1) _ _ _ h Y (lv_sub hl [2, 3, 4, 0, 5] rfl)
          · have h := gI_neg h c
            refine gr_ldcS3 X G Y (dck_at da_X9_layDown 23 rfl) ?_
            refine lv_aload_n X.1 X.2.1 (dck_at da_X9_layDown 24 rfl) rfl (lv_at hl 1 rfl) ?_
            refine gr_getR X G Y fk_RX9_11 clC_74 rfl (dck_at da_X9_layDown 25 rfl) ?_
            refine lv_iload X.1 X.2.1 (dck_at da_X9_layDown 26 rfl) (lv_at hl 5 rfl) ?_
            obtain ⟨hin, h⟩ := gI_if h
            refine gr_cald X G Y clC_75 hin (dck_at da_X9_layDown 27 rfl) ?_
            obtain ⟨r2, s2, hc, h⟩ := gB2_some h
            refine gr_backi Y (gr_runW3 (as := [.int (s1.1 75 (x4).toNatClampNeg)]) (rest := []) X G Y (ok_c_String_indexOf_0f7a4_v1 hc) cv_RX9_48 ⟨Nat.le_of_ble_eq_true rfl, Nat.le_of_ble_eq_true rfl⟩ rfl hl.1 (Nat.le_of_ble_eq_true rfl) (dck_at da_X9_layDown 28 rfl)) (fun H locs Y => ?_)
            refine lv_istore_n (lv' := [(2, .int r2), (5, .int r1), (0, .ref (ad 74)), (1, .ref (ad 6)), (3, .int x3), (4, .int x4)]) X.1 X.2.1 (dck_at da_X9_layDown 29 rfl) rfl hl (by decide) rfl (fun ls hl => ?_)
            refine lv_goto (tgt := 75) X.1 X.2.1 (dck_at da_X9_layDown 30 rfl) rfl ?_
            exact b75 r2 x3 x4 s2 _ _ _ h Y (lv_sub hl [2, 3, 0, 4, 5] rfl)
        · have h := gI_pos h c
          refine lv_goto (tgt := 75) X.1 X.2.1 (dck_at da_X9_layDown 16 rfl) rfl ?_
          exact b75 x2 x3 x4 s0 _ _ _ h Y (lv_sub hl [0, 1, 2, 3, 4] rfl)
  unfold c_Tape_layDown at h
  refine lv_iconst X.1 X.2.1 (dck_at da_X9_layDown 0 rfl) ki_m1 ?_
  refine lv_istore_n (lv' := [(2, .int (-1 : Int32)), (0, .ref (ad 74)), (1, .ref (ad 6))]) X.1 X.2.1 (dck_at da_X9_layDown 1 rfl) rfl hl (by decide) rfl (fun ls hl => ?_)
  refine lv_iconst X.1 X.2.1 (dck_at da_X9_layDown 2 rfl) ki_0 ?_
  refine lv_istore_n (lv' := [(3, .int (0 : Int32)), (2, .int (-1 : Int32)), (0, .ref (ad 74)), (1, .ref (ad 6))]) X.1 X.2.1 (dck_at da_X9_layDown 3 rfl) rfl hl (by decide) rfl (fun ls hl => ?_)
  refine lv_iconst X.1 X.2.1 (dck_at da_X9_layDown 4 rfl) ki_0 ?_
  refine lv_istore (lv' := [(4, .int (0 : Int32)), (3, .int (0 : Int32)), (2, .int (-1 : Int32)), (0, .ref (ad 74)), (1, .ref (ad 6))]) X.1 X.2.1 (dck_at da_X9_layDown 5 rfl) hl (by decide) rfl (fun ls hl => ?_)
  exact b7 F (-1 : Int32) (0 : Int32) (0 : Int32) s0 _ _ _ h Y (lv_sub hl [3, 4, 2, 1, 0] rfl)
set_option maxRecDepth 100000 in
set_option maxHeartbeats 4000000 in
theorem ok_c_Tape_readLaw {l : Launch} {D : va_G} {cy : Nat → ClassId} {ad sa : Nat → Nat} {A : Nat → Prop} {F : Nat}  {s0 : St} {ρ : Int32} {σ' : St} (h : c_Tape_readLaw F s0 = some (ρ, σ')) : gMi l shC D cy ad sa A yX9_readLaw cX9_readLaw 4 (some .int) 8 [.ref (ad 74), .ref (ad 6)] s0 ρ σ' := by
  refine gM_of (by decide) (Nat.le_of_ble_eq_true rfl) ?_
  intro p e s m args below meth c ls X G Y hr hlk hl
  have hl : lv_has ls 4 [(0, .ref (ad 74)), (1, .ref (ad 6))] := hl
  have b21 : ∀ (y0 : Int32) (s0 : St) (H : Heap) (locs : List Loc) (ls : Array Slot), c_Tape_readLaw_J21 F  y0 s0 = some (ρ, σ') → gY shC D cy ad A s0 s H locs → lv_has ls 4 [(0, .ref (ad 74))] → W p l e (grm 8) s m args below meth c H locs 0 0 (MQ below (va_Qi (fun (q : Int32) (_ : Unit) => q = ρ) (fun _ t => va_P D vwCl (gWl shC cy ad σ') t.heap) A) args s 0 0 A) (F0 m 21 ls [.int y0]) := by
    intro y0 s0 H locs ls h Y hl
    unfold c_Tape_readLaw_J21 at h
    refine lv_istore_n (lv' := [(3, .int y0), (0, .ref (ad 74))]) X.1 X.2.1 (dck_at da_X9_readLaw 12 rfl) rfl hl (by decide) rfl (fun ls hl => ?_)
    refine lv_aload_n X.1 X.2.1 (dck_at da_X9_readLaw 13 rfl) rfl (lv_at hl 1 rfl) ?_
    refine lv_iconst X.1 X.2.1 (dck_at da_X9_readLaw 14 rfl) ki_0 ?_
    refine gr_putI X G Y fp_RX9_15 clC_74 rfl (dck_at da_X9_readLaw 15 rfl) (fun H locs Y => ?_)
    refine lv_iload_n X.1 X.2.1 (dck_at da_X9_readLaw 16 rfl) rfl (lv_at hl 0 rfl) ?_
    exact gr_iretO X Y h hr rfl hlk (dck_at da_X9_readLaw 17 rfl)
  unfold c_Tape_readLaw at h
  refine lv_aload_n X.1 X.2.1 (dck_at da_X9_readLaw 0 rfl) rfl (lv_at hl 0 rfl) ?_
  obtain ⟨r1, s1, hc, h⟩ := gB2_some h
  refine gr_backi Y (gr_runV (as := []) (rest := []) X G Y (ok_c_Tape_lawFault hc) cv_RX9_35 clC_74 ⟨Nat.le_of_ble_eq_true rfl, Nat.le_of_ble_eq_true rfl⟩ rfl hl.1 (Nat.le_of_ble_eq_true rfl) (dck_at da_X9_readLaw 1 rfl)) (fun H locs Y => ?_)
  refine lv_istore_n (lv' := [(2, .int r1), (0, .ref (ad 74)), (1, .ref (ad 6))]) X.1 X.2.1 (dck_at da_X9_readLaw 2 rfl) rfl hl (by decide) rfl (fun ls hl => ?_)
  refine lv_iload_n X.1 X.2.1 (dck_at da_X9_readLaw 3 rfl) rfl (lv_at hl 0 rfl) ?_
  refine lv_if_ge (tgt := 17) X.1 X.2.1 (dck_at da_X9_readLaw 4 rfl) rfl (fun c => ?_) (fun c => ?_)
  · have h := gI_pos h c
    refine lv_bipush X.1 X.2.1 (dck_at da_X9_readLaw 9 rfl) kb_m20 ?_
    refine lv_iload_n X.1 X.2.1 (dck_at da_X9_readLaw 10 rfl) rfl (lv_at hl 0 rfl) ?_
    refine lv_isub X.1 X.2.1 (dck_at da_X9_readLaw 11 rfl) ?_
    exact b21 ((-20 : Int32) - r1) s1 _ _ _ h Y (lv_sub hl [1] rfl)
  · have h := gI_neg h c
    refine lv_aload_n X.1 X.2.1 (dck_at da_X9_readLaw 5 rfl) rfl (lv_at hl 1 rfl) ?_
    refine lv_aload_n X.1 X.2.1 (dck_at da_X9_readLaw 6 rfl) rfl (lv_at hl 2 rfl) ?_
    obtain ⟨r2, s2, hc, h⟩ := gB2_some h
    refine gr_backi Y (gr_runV (as := [.ref (ad 6)]) (rest := []) X G Y (ok_c_Tape_layDown hc) cv_RX9_38 clC_74 ⟨Nat.le_of_ble_eq_true rfl, Nat.le_of_ble_eq_true rfl⟩ rfl hl.1 (Nat.le_of_ble_eq_true rfl) (dck_at da_X9_readLaw 7 rfl)) (fun H locs Y => ?_)
    refine lv_goto (tgt := 21) X.1 X.2.1 (dck_at da_X9_readLaw 8 rfl) rfl ?_
    exact b21 r2 s2 _ _ _ h Y (lv_sub hl [1] rfl)
set_option maxRecDepth 100000 in
set_option maxHeartbeats 4000000 in
theorem ok_c_rules {l : Launch} {D : va_G} {cy : Nat → ClassId} {ad sa : Nat → Nat} {A : Nat → Prop} {F : Nat}  {s0 : St} {ρ : Int32} {σ' : St} (h : c_rules F s0 = some (ρ, σ')) : gMi l shC D cy ad sa A yX11_rules cX11_rules 1 (some .int) 9 [.ref (ad 0)] s0 ρ σ' := by
  refine gM_of (by decide) (Nat.le_of_ble_eq_true rfl) ?_
  intro p e s m args below meth c ls X G Y hr hlk hl
  have hl : lv_has ls 1 [(0, .ref (ad 0))] := hl
  unfold c_rules at h
  refine lv_aload_n X.1 X.2.1 (dck_at da_X11_rules 0 rfl) rfl (lv_at hl 0 rfl) ?_
  refine lv_aload_n X.1 X.2.1 (dck_at da_X11_rules 1 rfl) rfl (lv_at hl 0 rfl) ?_
  refine gr_getR X G Y fk_RX11_29 clC_0 rfl (dck_at da_X11_rules 2 rfl) ?_
  refine lv_aload_n X.1 X.2.1 (dck_at da_X11_rules 3 rfl) rfl (lv_at hl 0 rfl) ?_
  refine gr_getR X G Y fk_RX11_12 clC_0 rfl (dck_at da_X11_rules 4 rfl) ?_
  refine gr_getR X G Y fk_RX11_83 clC_1 rfl (dck_at da_X11_rules 5 rfl) ?_
  obtain ⟨r1, s1, hc, h⟩ := gB2_some h
  refine gr_backi Y (gr_runV (as := [.ref (ad 6)]) (rest := [.ref (ad 0)]) X G Y (ok_c_Tape_readLaw hc) cv_RX11_112 clC_74 ⟨Nat.le_of_ble_eq_true rfl, Nat.le_of_ble_eq_true rfl⟩ rfl hl.1 (Nat.le_of_ble_eq_true rfl) (dck_at da_X11_rules 6 rfl)) (fun H locs Y => ?_)
  obtain ⟨r2, s2, hc, h⟩ := gB2_some h
  refine gr_backi Y (gr_runV (as := [.int r1]) (rest := []) X G Y (ok_c_answered hc) cv_RX11_109 clC_0 ⟨Nat.le_of_ble_eq_true rfl, Nat.le_of_ble_eq_true rfl⟩ rfl hl.1 (Nat.le_of_ble_eq_true rfl) (dck_at da_X11_rules 7 rfl)) (fun H locs Y => ?_)
  exact gr_iretO X Y h hr rfl hlk (dck_at da_X11_rules 8 rfl)
set_option maxRecDepth 100000 in
set_option maxHeartbeats 4000000 in
theorem ok_c_Land_isBarred {l : Launch} {D : va_G} {cy : Nat → ClassId} {ad sa : Nat → Nat} {A : Nat → Prop} {F : Nat} {a1 : Int32} {s0 : St} {ρ : Int32} {σ' : St} (h : c_Land_isBarred F a1 s0 = some (ρ, σ')) : gMi l shC D cy ad sa A yX3_isBarred cX3_isBarred 2 (some .boolean) 1 [.ref (ad 2), .int a1] s0 ρ σ' := by
  refine gM_of (by decide) (Nat.le_of_ble_eq_true rfl) ?_
  intro p e s m args below meth c ls X G Y hr hlk hl
  have hl : lv_has ls 2 [(0, .ref (ad 2)), (1, .int a1)] := hl
  have b20 : ∀  (s0 : St) (H : Heap) (locs : List Loc) (ls : Array Slot), c_Land_isBarred_J20 F  s0 = some (ρ, σ') → gY shC D cy ad A s0 s H locs → lv_has ls 2 [] → W p l e (grm 1) s m args below meth c H locs 0 0 (MQ below (va_Qi (fun (q : Int32) (_ : Unit) => q = ρ) (fun _ t => va_P D vwCl (gWl shC cy ad σ') t.heap) A) args s 0 0 A) (F0 m 20 ls []) := by
    intro s0 H locs ls h Y hl
    unfold c_Land_isBarred_J20 at h
    refine lv_iconst X.1 X.2.1 (dck_at da_X3_isBarred 12 rfl) ki_1 ?_
    refine lv_goto (tgt := 25) X.1 X.2.1 (dck_at da_X3_isBarred 13 rfl) rfl ?_
    exact gr_iretO X Y h hr rfl hlk (dck_at da_X3_isBarred 15 rfl)
  unfold c_Land_isBarred at h
  refine lv_aload_n X.1 X.2.1 (dck_at da_X3_isBarred 0 rfl) rfl (lv_at hl 0 rfl) ?_
  refine gr_getR X G Y fk_RX3_9 clC_2 rfl (dck_at da_X3_isBarred 1 rfl) ?_
  refine lv_iload_n X.1 X.2.1 (dck_at da_X3_isBarred 2 rfl) rfl (lv_at hl 1 rfl) ?_
  obtain ⟨hin, h⟩ := gI_if h
  refine gr_iald X G Y clC_3 hin (dck_at da_X3_isBarred 3 rfl) ?_
  refine lv_iconst X.1 X.2.1 (dck_at da_X3_isBarred 4 rfl) ki_3 ?_
  refine lv_icmp_eq (tgt := 20) X.1 X.2.1 (dck_at da_X3_isBarred 5 rfl) rfl (fun c => ?_) (fun c => ?_)
  · have h := gI_pos h c
    exact b20 s0 _ _ _ h Y (lv_sub hl [] rfl)
  · have h := gI_neg h c
    refine lv_aload_n X.1 X.2.1 (dck_at da_X3_isBarred 6 rfl) rfl (lv_at hl 0 rfl) ?_
    refine gr_getR X G Y fk_RX3_9 clC_2 rfl (dck_at da_X3_isBarred 7 rfl) ?_
    refine lv_iload_n X.1 X.2.1 (dck_at da_X3_isBarred 8 rfl) rfl (lv_at hl 1 rfl) ?_
    obtain ⟨hin, h⟩ := gI_if h
    refine gr_iald X G Y clC_3 hin (dck_at da_X3_isBarred 9 rfl) ?_
    refine lv_iconst X.1 X.2.1 (dck_at da_X3_isBarred 10 rfl) ki_4 ?_
    refine lv_icmp_ne (tgt := 24) X.1 X.2.1 (dck_at da_X3_isBarred 11 rfl) rfl (fun c => ?_) (fun c => ?_)
    · have h := gI_neg h c
      refine lv_iconst X.1 X.2.1 (dck_at da_X3_isBarred 14 rfl) ki_0 ?_
      exact gr_iretO X Y h hr rfl hlk (dck_at da_X3_isBarred 15 rfl)
    · have h := gI_pos h c
      exact b20 s0 _ _ _ h Y (lv_sub hl [] rfl)
set_option maxRecDepth 100000 in
set_option maxHeartbeats 4000000 in
theorem ok_c_Arrays_fill_53178 {l : Launch} {D : va_G} {cy : Nat → ClassId} {ad sa : Nat → Nat} {A : Nat → Prop} {F : Nat} {a1 : Int32} {s0 : St} {σ' : St} (h : c_Arrays_fill_53178 F a1 s0 = some σ') : gMv l shC D cy ad sa A yJ7_fill_53178 cJ7_fill_53178 4 none 1 [.ref (ad 5), .int a1] s0 σ' := by
  refine gM_of (by decide) (Nat.le_of_ble_eq_true rfl) ?_
  intro p e s m args below meth c ls X G Y hr hlk hl
  have hl : lv_has ls 4 [(0, .ref (ad 5)), (1, .int a1)] := hl
  have b5 : ∀ n : Nat, ∀ (x1 : Int32) (x2 : Int32) (x3 : Int32) (s0 : St) (H : Heap) (locs : List Loc) (ls : Array Slot), c_Arrays_fill_53178_L5 F  n x1 x2 x3 s0 = some σ' → gY shC D cy ad A s0 s H locs → lv_has ls 4 [(0, .ref (ad 5)), (1, .int x1), (2, .int x2), (3, .int x3)] → W p l e (grm 1) s m args below meth c H locs 0 0 (MQ below (va_Qv (fun (_ : Unit) => True) (fun _ t => va_P D vwCl (gWl shC cy ad σ') t.heap) A) args s 0 0 A) (F0 m 5 ls []) := by
    intro n
    induction n with
    | zero => intro x1 x2 x3 s0 H locs ls h Y hl; exact (gnone h).elim
    | succ n hk5 =>
      have e : c_Arrays_fill_53178_L5 F  (n + 1) = c_Arrays_fill_53178_L5b F  (c_Arrays_fill_53178_L5 F  n) := rfl
      rw [e]; clear e
      generalize c_Arrays_fill_53178_L5 F  n = k5 at hk5 ⊢
      intro x1 x2 x3 s0 H locs ls h Y hl
      unfold c_Arrays_fill_53178_L5b at h
      refine lv_iload_n X.1 X.2.1 (dck_at da_J7_fill_53178 5 rfl) rfl (lv_at hl 2 rfl) ?_
      refine lv_iload_n X.1 X.2.1 (dck_at da_J7_fill_53178 6 rfl) rfl (lv_at hl 3 rfl) ?_
      refine lv_icmp_ge (tgt := 20) X.1 X.2.1 (dck_at da_J7_fill_53178 7 rfl) rfl (fun c => ?_) (fun c => ?_)
      · have h := gI_pos h c
        exact gr_vretO X Y h hr hlk (dck_at da_J7_fill_53178 14 rfl)
      · have h := gI_neg h c
        refine lv_aload_n X.1 X.2.1 (dck_at da_J7_fill_53178 8 rfl) rfl (lv_at hl 0 rfl) ?_
        refine lv_iload_n X.1 X.2.1 (dck_at da_J7_fill_53178 9 rfl) rfl (lv_at hl 2 rfl) ?_
        refine lv_iload_n X.1 X.2.1 (dck_at da_J7_fill_53178 10 rfl) rfl (lv_at hl 1 rfl) ?_
        obtain ⟨hin, h⟩ := gI_if h
        refine gr_iast X G Y clC_5 hin (dck_at da_J7_fill_53178 11 rfl) (fun H locs Y => ?_)
        refine lv_iinc (v := x2 + (1 : Int32)) (lv' := [(2, .int (x2 + (1 : Int32))), (0, .ref (ad 5)), (1, .int x1), (3, .int x3)]) X.1 X.2.1 (dck_at da_J7_fill_53178 12 rfl) hl (k := 2) rfl (congrArg (HAdd.hAdd _) ki_1) (by decide) rfl (fun ls hl => ?_)
        refine lv_goto (tgt := 5) X.1 X.2.1 (dck_at da_J7_fill_53178 13 rfl) rfl ?_
        exact hk5 x1 (x2 + (1 : Int32)) x3 (sI s0 5 (x2).toNatClampNeg x1) _ _ _ h Y (lv_sub hl [1, 2, 0, 3] rfl)
  unfold c_Arrays_fill_53178 at h
  refine lv_iconst X.1 X.2.1 (dck_at da_J7_fill_53178 0 rfl) ki_0 ?_
  refine lv_istore_n (lv' := [(2, .int (0 : Int32)), (0, .ref (ad 5)), (1, .int a1)]) X.1 X.2.1 (dck_at da_J7_fill_53178 1 rfl) rfl hl (by decide) rfl (fun ls hl => ?_)
  refine lv_aload_n X.1 X.2.1 (dck_at da_J7_fill_53178 2 rfl) rfl (lv_at hl 1 rfl) ?_
  refine gr_alen (v := 144) X G Y clC_5 (by decide) rfl (dck_at da_J7_fill_53178 3 rfl) ?_
  refine lv_istore_n (lv' := [(3, .int (144 : Int32)), (2, .int (0 : Int32)), (0, .ref (ad 5)), (1, .int a1)]) X.1 X.2.1 (dck_at da_J7_fill_53178 4 rfl) rfl hl (by decide) rfl (fun ls hl => ?_)
  exact b5 F a1 (0 : Int32) (144 : Int32) s0 _ _ _ h Y (lv_sub hl [2, 3, 1, 0] rfl)
set_option maxRecDepth 100000 in
set_option maxHeartbeats 4000000 in
theorem ok_c_Land_forgetSearches {l : Launch} {D : va_G} {cy : Nat → ClassId} {ad sa : Nat → Nat} {A : Nat → Prop} {F : Nat}  {s0 : St} {σ' : St} (h : c_Land_forgetSearches F s0 = some σ') : gMv l shC D cy ad sa A yX3_forgetSearches cX3_forgetSearches 1 none 2 [.ref (ad 2)] s0 σ' := by
  refine gM_of (by decide) (Nat.le_of_ble_eq_true rfl) ?_
  intro p e s m args below meth c ls X G Y hr hlk hl
  have hl : lv_has ls 1 [(0, .ref (ad 2))] := hl
  unfold c_Land_forgetSearches at h
  refine lv_aload_n X.1 X.2.1 (dck_at da_X3_forgetSearches 0 rfl) rfl (lv_at hl 0 rfl) ?_
  refine gr_getR X G Y fk_RX3_18 clC_2 rfl (dck_at da_X3_forgetSearches 1 rfl) ?_
  refine lv_iconst X.1 X.2.1 (dck_at da_X3_forgetSearches 2 rfl) ki_0 ?_
  obtain ⟨s1, hc, h⟩ := gB_some h
  refine gr_backv Y (gr_runS (as := [.ref (ad 5), .int (0 : Int32)]) (rest := []) X G Y (ok_c_Arrays_fill_53178 hc) cs_RX3_27 ⟨Nat.le_of_ble_eq_true rfl, Nat.le_of_ble_eq_true rfl⟩ rfl hl.1 (Nat.le_of_ble_eq_true rfl) (dck_at da_X3_forgetSearches 3 rfl)) (fun H locs Y => ?_)
  exact gr_vretO X Y h hr hlk (dck_at da_X3_forgetSearches 4 rfl)
set_option maxRecDepth 100000 in
set_option maxHeartbeats 4000000 in
theorem ok_c_Arrays_fill_d0a16 {l : Launch} {D : va_G} {cy : Nat → ClassId} {ad sa : Nat → Nat} {A : Nat → Prop} {F : Nat} {a1 : Int64} {s0 : St} {σ' : St} (h : c_Arrays_fill_d0a16 F a1 s0 = some σ') : gMv l shC D cy ad sa A yJ7_fill_d0a16 cJ7_fill_d0a16 5 none 1 [.ref (ad 10), .long a1] s0 σ' := by
  refine gM_of (by decide) (Nat.le_of_ble_eq_true rfl) ?_
  intro p e s m args below meth c ls X G Y hr hlk hl
  have hl : lv_has ls 5 [(0, .ref (ad 10)), (1, .long a1)] := hl
  have b6 : ∀ n : Nat, ∀ (x1 : Int64) (x3 : Int32) (x4 : Int32) (s0 : St) (H : Heap) (locs : List Loc) (ls : Array Slot), c_Arrays_fill_d0a16_L6 F  n x1 x3 x4 s0 = some σ' → gY shC D cy ad A s0 s H locs → lv_has ls 5 [(0, .ref (ad 10)), (1, .long x1), (3, .int x3), (4, .int x4)] → W p l e (grm 1) s m args below meth c H locs 0 0 (MQ below (va_Qv (fun (_ : Unit) => True) (fun _ t => va_P D vwCl (gWl shC cy ad σ') t.heap) A) args s 0 0 A) (F0 m 6 ls []) := by
    intro n
    induction n with
    | zero => intro x1 x3 x4 s0 H locs ls h Y hl; exact (gnone h).elim
    | succ n hk6 =>
      have e : c_Arrays_fill_d0a16_L6 F  (n + 1) = c_Arrays_fill_d0a16_L6b F  (c_Arrays_fill_d0a16_L6 F  n) := rfl
      rw [e]; clear e
      generalize c_Arrays_fill_d0a16_L6 F  n = k6 at hk6 ⊢
      intro x1 x3 x4 s0 H locs ls h Y hl
      unfold c_Arrays_fill_d0a16_L6b at h
      refine lv_iload_n X.1 X.2.1 (dck_at da_J7_fill_d0a16 5 rfl) rfl (lv_at hl 2 rfl) ?_
      refine lv_iload X.1 X.2.1 (dck_at da_J7_fill_d0a16 6 rfl) (lv_at hl 3 rfl) ?_
      refine lv_icmp_ge (tgt := 22) X.1 X.2.1 (dck_at da_J7_fill_d0a16 7 rfl) rfl (fun c => ?_) (fun c => ?_)
      · have h := gI_pos h c
        exact gr_vretO X Y h hr hlk (dck_at da_J7_fill_d0a16 14 rfl)
      · have h := gI_neg h c
        refine lv_aload_n X.1 X.2.1 (dck_at da_J7_fill_d0a16 8 rfl) rfl (lv_at hl 0 rfl) ?_
        refine lv_iload_n X.1 X.2.1 (dck_at da_J7_fill_d0a16 9 rfl) rfl (lv_at hl 2 rfl) ?_
        refine lv_lload_n X.1 X.2.1 (dck_at da_J7_fill_d0a16 10 rfl) rfl (lv_at hl 1 rfl) ?_
        obtain ⟨hin, h⟩ := gI_if h
        refine gr_last X G Y clC_10 hin (dck_at da_J7_fill_d0a16 11 rfl) (fun H locs Y => ?_)
        refine lv_iinc (v := x3 + (1 : Int32)) (lv' := [(3, .int (x3 + (1 : Int32))), (0, .ref (ad 10)), (1, .long x1), (4, .int x4)]) X.1 X.2.1 (dck_at da_J7_fill_d0a16 12 rfl) hl (k := 2) rfl (congrArg (HAdd.hAdd _) ki_1) (by decide) rfl (fun ls hl => ?_)
        refine lv_goto (tgt := 6) X.1 X.2.1 (dck_at da_J7_fill_d0a16 13 rfl) rfl ?_
        exact hk6 x1 (x3 + (1 : Int32)) x4 (sJ s0 10 (x3).toNatClampNeg x1) _ _ _ h Y (lv_sub hl [1, 2, 0, 3] rfl)
  unfold c_Arrays_fill_d0a16 at h
  refine lv_iconst X.1 X.2.1 (dck_at da_J7_fill_d0a16 0 rfl) ki_0 ?_
  refine lv_istore_n (lv' := [(3, .int (0 : Int32)), (0, .ref (ad 10)), (1, .long a1)]) X.1 X.2.1 (dck_at da_J7_fill_d0a16 1 rfl) rfl hl (by decide) rfl (fun ls hl => ?_)
  refine lv_aload_n X.1 X.2.1 (dck_at da_J7_fill_d0a16 2 rfl) rfl (lv_at hl 1 rfl) ?_
  refine gr_alen (v := 576) X G Y clC_10 (by decide) rfl (dck_at da_J7_fill_d0a16 3 rfl) ?_
  refine lv_istore (lv' := [(4, .int (576 : Int32)), (3, .int (0 : Int32)), (0, .ref (ad 10)), (1, .long a1)]) X.1 X.2.1 (dck_at da_J7_fill_d0a16 4 rfl) hl (by decide) rfl (fun ls hl => ?_)
  exact b6 F a1 (0 : Int32) (576 : Int32) s0 _ _ _ h Y (lv_sub hl [2, 3, 1, 0] rfl)
set_option maxRecDepth 100000 in
set_option maxHeartbeats 4000000 in
theorem ok_c_Arrays_fill_d0a16_v1 {l : Launch} {D : va_G} {cy : Nat → ClassId} {ad sa : Nat → Nat} {A : Nat → Prop} {F : Nat} {a1 : Int64} {s0 : St} {σ' : St} (h : c_Arrays_fill_d0a16_v1 F a1 s0 = some σ') : gMv l shC D cy ad sa A yJ7_fill_d0a16 cJ7_fill_d0a16 5 none 1 [.ref (ad 11), .long a1] s0 σ' := by
  refine gM_of (by decide) (Nat.le_of_ble_eq_true rfl) ?_
  intro p e s m args below meth c ls X G Y hr hlk hl
  have hl : lv_has ls 5 [(0, .ref (ad 11)), (1, .long a1)] := hl
  have b6 : ∀ n : Nat, ∀ (x1 : Int64) (x3 : Int32) (x4 : Int32) (s0 : St) (H : Heap) (locs : List Loc) (ls : Array Slot), c_Arrays_fill_d0a16_v1_L6 F  n x1 x3 x4 s0 = some σ' → gY shC D cy ad A s0 s H locs → lv_has ls 5 [(0, .ref (ad 11)), (1, .long x1), (3, .int x3), (4, .int x4)] → W p l e (grm 1) s m args below meth c H locs 0 0 (MQ below (va_Qv (fun (_ : Unit) => True) (fun _ t => va_P D vwCl (gWl shC cy ad σ') t.heap) A) args s 0 0 A) (F0 m 6 ls []) := by
    intro n
    induction n with
    | zero => intro x1 x3 x4 s0 H locs ls h Y hl; exact (gnone h).elim
    | succ n hk6 =>
      have e : c_Arrays_fill_d0a16_v1_L6 F  (n + 1) = c_Arrays_fill_d0a16_v1_L6b F  (c_Arrays_fill_d0a16_v1_L6 F  n) := rfl
      rw [e]; clear e
      generalize c_Arrays_fill_d0a16_v1_L6 F  n = k6 at hk6 ⊢
      intro x1 x3 x4 s0 H locs ls h Y hl
      unfold c_Arrays_fill_d0a16_v1_L6b at h
      refine lv_iload_n X.1 X.2.1 (dck_at da_J7_fill_d0a16 5 rfl) rfl (lv_at hl 2 rfl) ?_
      refine lv_iload X.1 X.2.1 (dck_at da_J7_fill_d0a16 6 rfl) (lv_at hl 3 rfl) ?_
      refine lv_icmp_ge (tgt := 22) X.1 X.2.1 (dck_at da_J7_fill_d0a16 7 rfl) rfl (fun c => ?_) (fun c => ?_)
      · have h := gI_pos h c
        exact gr_vretO X Y h hr hlk (dck_at da_J7_fill_d0a16 14 rfl)
      · have h := gI_neg h c
        refine lv_aload_n X.1 X.2.1 (dck_at da_J7_fill_d0a16 8 rfl) rfl (lv_at hl 0 rfl) ?_
        refine lv_iload_n X.1 X.2.1 (dck_at da_J7_fill_d0a16 9 rfl) rfl (lv_at hl 2 rfl) ?_
        refine lv_lload_n X.1 X.2.1 (dck_at da_J7_fill_d0a16 10 rfl) rfl (lv_at hl 1 rfl) ?_
        obtain ⟨hin, h⟩ := gI_if h
        refine gr_last X G Y clC_11 hin (dck_at da_J7_fill_d0a16 11 rfl) (fun H locs Y => ?_)
        refine lv_iinc (v := x3 + (1 : Int32)) (lv' := [(3, .int (x3 + (1 : Int32))), (0, .ref (ad 11)), (1, .long x1), (4, .int x4)]) X.1 X.2.1 (dck_at da_J7_fill_d0a16 12 rfl) hl (k := 2) rfl (congrArg (HAdd.hAdd _) ki_1) (by decide) rfl (fun ls hl => ?_)
        refine lv_goto (tgt := 6) X.1 X.2.1 (dck_at da_J7_fill_d0a16 13 rfl) rfl ?_
        exact hk6 x1 (x3 + (1 : Int32)) x4 (sJ s0 11 (x3).toNatClampNeg x1) _ _ _ h Y (lv_sub hl [1, 2, 0, 3] rfl)
  unfold c_Arrays_fill_d0a16_v1 at h
  refine lv_iconst X.1 X.2.1 (dck_at da_J7_fill_d0a16 0 rfl) ki_0 ?_
  refine lv_istore_n (lv' := [(3, .int (0 : Int32)), (0, .ref (ad 11)), (1, .long a1)]) X.1 X.2.1 (dck_at da_J7_fill_d0a16 1 rfl) rfl hl (by decide) rfl (fun ls hl => ?_)
  refine lv_aload_n X.1 X.2.1 (dck_at da_J7_fill_d0a16 2 rfl) rfl (lv_at hl 1 rfl) ?_
  refine gr_alen (v := 144) X G Y clC_11 (by decide) rfl (dck_at da_J7_fill_d0a16 3 rfl) ?_
  refine lv_istore (lv' := [(4, .int (144 : Int32)), (3, .int (0 : Int32)), (0, .ref (ad 11)), (1, .long a1)]) X.1 X.2.1 (dck_at da_J7_fill_d0a16 4 rfl) hl (by decide) rfl (fun ls hl => ?_)
  exact b6 F a1 (0 : Int32) (144 : Int32) s0 _ _ _ h Y (lv_sub hl [2, 3, 1, 0] rfl)
set_option maxRecDepth 100000 in
set_option maxHeartbeats 4000000 in
theorem ok_c_Night_setOut {l : Launch} {D : va_G} {cy : Nat → ClassId} {ad sa : Nat → Nat} {A : Nat → Prop} {F : Nat} {a1 : Int32} {a2 : Int32} {s0 : St} {σ' : St} (h : c_Night_setOut F a1 a2 s0 = some σ') : gMv l shC D cy ad sa A yX6_setOut cX6_setOut 3 none 2 [.ref (ad 9), .int a1, .int a2] s0 σ' := by
  refine gM_of (by decide) (Nat.le_of_ble_eq_true rfl) ?_
  intro p e s m args below meth c ls X G Y hr hlk hl
  have hl : lv_has ls 3 [(0, .ref (ad 9)), (1, .int a1), (2, .int a2)] := hl
  unfold c_Night_setOut at h
  refine lv_aload_n X.1 X.2.1 (dck_at da_X6_setOut 0 rfl) rfl (lv_at hl 0 rfl) ?_
  refine gr_getR X G Y fk_RX6_9 clC_9 rfl (dck_at da_X6_setOut 1 rfl) ?_
  refine lv_lconst (v := 0) X.1 X.2.1 (dck_at da_X6_setOut 2 rfl) rfl ?_
  obtain ⟨s1, hc, h⟩ := gB_some h
  refine gr_backv Y (gr_runS (as := [.ref (ad 10), .long (0 : Int64)]) (rest := []) X G Y (ok_c_Arrays_fill_d0a16 hc) cs_RX6_35 ⟨Nat.le_of_ble_eq_true rfl, Nat.le_of_ble_eq_true rfl⟩ rfl hl.1 (Nat.le_of_ble_eq_true rfl) (dck_at da_X6_setOut 3 rfl)) (fun H locs Y => ?_)
  refine lv_aload_n X.1 X.2.1 (dck_at da_X6_setOut 4 rfl) rfl (lv_at hl 0 rfl) ?_
  refine gr_getR X G Y fk_RX6_15 clC_9 rfl (dck_at da_X6_setOut 5 rfl) ?_
  refine lv_lconst (v := 0) X.1 X.2.1 (dck_at da_X6_setOut 6 rfl) rfl ?_
  obtain ⟨s2, hc, h⟩ := gB_some h
  refine gr_backv Y (gr_runS (as := [.ref (ad 11), .long (0 : Int64)]) (rest := []) X G Y (ok_c_Arrays_fill_d0a16_v1 hc) cs_RX6_35 ⟨Nat.le_of_ble_eq_true rfl, Nat.le_of_ble_eq_true rfl⟩ rfl hl.1 (Nat.le_of_ble_eq_true rfl) (dck_at da_X6_setOut 7 rfl)) (fun H locs Y => ?_)
  refine lv_aload_n X.1 X.2.1 (dck_at da_X6_setOut 8 rfl) rfl (lv_at hl 0 rfl) ?_
  refine gr_getR X G Y fk_RX6_9 clC_9 rfl (dck_at da_X6_setOut 9 rfl) ?_
  refine lv_iload_n X.1 X.2.1 (dck_at da_X6_setOut 10 rfl) rfl (lv_at hl 1 rfl) ?_
  refine lv_iconst X.1 X.2.1 (dck_at da_X6_setOut 11 rfl) ki_4 ?_
  refine lv_imul X.1 X.2.1 (dck_at da_X6_setOut 12 rfl) ?_
  refine lv_iload_n X.1 X.2.1 (dck_at da_X6_setOut 13 rfl) rfl (lv_at hl 2 rfl) ?_
  refine lv_iadd X.1 X.2.1 (dck_at da_X6_setOut 14 rfl) ?_
  refine lv_ldc2 X.1 X.2.1 X.2.2.2.1 (X.2.2.2.2 _ wm_591) (dck_at da_X6_setOut 15 rfl) ?_
  obtain ⟨hin, h⟩ := gI_if h
  refine gr_last X G Y clC_10 hin (dck_at da_X6_setOut 16 rfl) (fun H locs Y => ?_)
  refine lv_aload_n X.1 X.2.1 (dck_at da_X6_setOut 17 rfl) rfl (lv_at hl 0 rfl) ?_
  refine lv_iconst X.1 X.2.1 (dck_at da_X6_setOut 18 rfl) ki_0 ?_
  refine gr_putI X G Y fp_RX6_25 clC_9 rfl (dck_at da_X6_setOut 19 rfl) (fun H locs Y => ?_)
  exact gr_vretO X Y h hr hlk (dck_at da_X6_setOut 20 rfl)
set_option maxRecDepth 100000 in
set_option maxHeartbeats 4000000 in
theorem ok_c_start {l : Launch} {D : va_G} {cy : Nat → ClassId} {ad sa : Nat → Nat} {A : Nat → Prop} {F : Nat} {a1 : Int32} {a2 : Int32} {s0 : St} {ρ : Int32} {σ' : St} (h : c_start F a1 a2 s0 = some (ρ, σ')) : gMi l shC D cy ad sa A yX11_start cX11_start 3 (some .int) 3 [.ref (ad 0), .int a1, .int a2] s0 ρ σ' := by
  refine gM_of (by decide) (Nat.le_of_ble_eq_true rfl) ?_
  intro p e s m args below meth c ls X G Y hr hlk hl
  have hl : lv_has ls 3 [(0, .ref (ad 0)), (1, .int a1), (2, .int a2)] := hl
  have b16 : ∀  (s0 : St) (H : Heap) (locs : List Loc) (ls : Array Slot), c_start_J16 F  s0 = some (ρ, σ') → gY shC D cy ad A s0 s H locs → lv_has ls 3 [(0, .ref (ad 0))] → W p l e (grm 3) s m args below meth c H locs 0 0 (MQ below (va_Qi (fun (q : Int32) (_ : Unit) => q = ρ) (fun _ t => va_P D vwCl (gWl shC cy ad σ') t.heap) A) args s 0 0 A) (F0 m 16 ls []) := by
    intro s0 H locs ls h Y hl
    unfold c_start_J16 at h
    refine lv_aload_n X.1 X.2.1 (dck_at da_X11_start 8 rfl) rfl (lv_at hl 0 rfl) ?_
    refine lv_iconst X.1 X.2.1 (dck_at da_X11_start 9 rfl) ki_m1 ?_
    obtain ⟨r1, s1, hc, h⟩ := gB2_some h
    refine gr_backi Y (gr_runV (as := [.int (-1 : Int32)]) (rest := []) X G Y (ok_c_refuse hc) cv_RX11_55 clC_0 ⟨Nat.le_of_ble_eq_true rfl, Nat.le_of_ble_eq_true rfl⟩ rfl hl.1 (Nat.le_of_ble_eq_true rfl) (dck_at da_X11_start 10 rfl)) (fun H locs Y => ?_)
    exact gr_iretO X Y h hr rfl hlk (dck_at da_X11_start 11 rfl)
  unfold c_start at h
  refine lv_iload_n X.1 X.2.1 (dck_at da_X11_start 0 rfl) rfl (lv_at hl 1 rfl) ?_
  obtain ⟨r2, s2, hc, h⟩ := gB2_some h
  refine gr_backi Y (gr_runS (as := [.int a1]) (rest := []) X G Y (ok_c_isCell hc) cs_RX11_48 ⟨Nat.le_of_ble_eq_true rfl, Nat.le_of_ble_eq_true rfl⟩ rfl hl.1 (Nat.le_of_ble_eq_true rfl) (dck_at da_X11_start 1 rfl)) (fun H locs Y => ?_)
  refine lv_if_eq (tgt := 16) X.1 X.2.1 (dck_at da_X11_start 2 rfl) rfl (fun c => ?_) (fun c => ?_)
  · have h := gI_pos h c
    exact b16 s2 _ _ _ h Y (lv_sub hl [0] rfl)
  · have h := gI_neg h c
    refine lv_iload_n X.1 X.2.1 (dck_at da_X11_start 3 rfl) rfl (lv_at hl 2 rfl) ?_
    refine lv_iconst X.1 X.2.1 (dck_at da_X11_start 4 rfl) ki_0 ?_
    refine lv_iconst X.1 X.2.1 (dck_at da_X11_start 5 rfl) ki_3 ?_
    obtain ⟨r3, s3, hc, h⟩ := gB2_some h
    refine gr_backi Y (gr_runS (as := [.int a2, .int (0 : Int32), .int (3 : Int32)]) (rest := []) X G Y (ok_c_isIn hc) cs_RX11_68 ⟨Nat.le_of_ble_eq_true rfl, Nat.le_of_ble_eq_true rfl⟩ rfl hl.1 (Nat.le_of_ble_eq_true rfl) (dck_at da_X11_start 6 rfl)) (fun H locs Y => ?_)
    refine lv_if_ne (tgt := 22) X.1 X.2.1 (dck_at da_X11_start 7 rfl) rfl (fun c => ?_) (fun c => ?_)
    · have h := gI_neg h c
      refine lv_aload_n X.1 X.2.1 (dck_at da_X11_start 12 rfl) rfl (lv_at hl 0 rfl) ?_
      refine gr_getR X G Y fk_RX11_12 clC_0 rfl (dck_at da_X11_start 13 rfl) ?_
      refine gr_getR X G Y fk_RX11_59 clC_1 rfl (dck_at da_X11_start 14 rfl) ?_
      refine lv_iload_n X.1 X.2.1 (dck_at da_X11_start 15 rfl) rfl (lv_at hl 1 rfl) ?_
      obtain ⟨r4, s4, hc, h⟩ := gB2_some h
      refine gr_backi Y (gr_runV (as := [.int a1]) (rest := []) X G Y (ok_c_Land_isBarred hc) cv_RX11_116 clC_2 ⟨Nat.le_of_ble_eq_true rfl, Nat.le_of_ble_eq_true rfl⟩ rfl hl.1 (Nat.le_of_ble_eq_true rfl) (dck_at da_X11_start 16 rfl)) (fun H locs Y => ?_)
      refine lv_if_eq (tgt := 43) X.1 X.2.1 (dck_at da_X11_start 17 rfl) rfl (fun c => ?_) (fun c => ?_)
      · have h := gI_pos h c
        refine lv_aload_n X.1 X.2.1 (dck_at da_X11_start 22 rfl) rfl (lv_at hl 0 rfl) ?_
        refine gr_getR X G Y fk_RX11_12 clC_0 rfl (dck_at da_X11_start 23 rfl) ?_
        refine gr_getR X G Y fk_RX11_59 clC_1 rfl (dck_at da_X11_start 24 rfl) ?_
        obtain ⟨s5, hc, h⟩ := gB_some h
        refine gr_backv Y (gr_runV (as := []) (rest := []) X G Y (ok_c_Land_forgetSearches hc) cv_RX11_119 clC_2 ⟨Nat.le_of_ble_eq_true rfl, Nat.le_of_ble_eq_true rfl⟩ rfl hl.1 (Nat.le_of_ble_eq_true rfl) (dck_at da_X11_start 25 rfl)) (fun H locs Y => ?_)
        refine lv_aload_n X.1 X.2.1 (dck_at da_X11_start 26 rfl) rfl (lv_at hl 0 rfl) ?_
        refine gr_getR X G Y fk_RX11_12 clC_0 rfl (dck_at da_X11_start 27 rfl) ?_
        refine gr_getR X G Y fk_RX11_122 clC_1 rfl (dck_at da_X11_start 28 rfl) ?_
        refine lv_iload_n X.1 X.2.1 (dck_at da_X11_start 29 rfl) rfl (lv_at hl 1 rfl) ?_
        refine lv_iload_n X.1 X.2.1 (dck_at da_X11_start 30 rfl) rfl (lv_at hl 2 rfl) ?_
        obtain ⟨s6, hc, h⟩ := gB_some h
        refine gr_backv Y (gr_runV (as := [.int a1, .int a2]) (rest := []) X G Y (ok_c_Night_setOut hc) cv_RX11_126 clC_9 ⟨Nat.le_of_ble_eq_true rfl, Nat.le_of_ble_eq_true rfl⟩ rfl hl.1 (Nat.le_of_ble_eq_true rfl) (dck_at da_X11_start 31 rfl)) (fun H locs Y => ?_)
        refine lv_iconst X.1 X.2.1 (dck_at da_X11_start 32 rfl) ki_1 ?_
        exact gr_iretO X Y h hr rfl hlk (dck_at da_X11_start 33 rfl)
      · have h := gI_neg h c
        refine lv_aload_n X.1 X.2.1 (dck_at da_X11_start 18 rfl) rfl (lv_at hl 0 rfl) ?_
        refine lv_bipush X.1 X.2.1 (dck_at da_X11_start 19 rfl) kb_m2 ?_
        obtain ⟨r7, s7, hc, h⟩ := gB2_some h
        refine gr_backi Y (gr_runV (as := [.int (-2 : Int32)]) (rest := []) X G Y (ok_c_refuse hc) cv_RX11_55 clC_0 ⟨Nat.le_of_ble_eq_true rfl, Nat.le_of_ble_eq_true rfl⟩ rfl hl.1 (Nat.le_of_ble_eq_true rfl) (dck_at da_X11_start 20 rfl)) (fun H locs Y => ?_)
        exact gr_iretO X Y h hr rfl hlk (dck_at da_X11_start 21 rfl)
    · have h := gI_pos h c
      exact b16 s3 _ _ _ h Y (lv_sub hl [0] rfl)
set_option maxRecDepth 100000 in
set_option maxHeartbeats 4000000 in
theorem ok_c_Night_together {l : Launch} {D : va_G} {cy : Nat → ClassId} {ad sa : Nat → Nat} {A : Nat → Prop} {F : Nat} {a1 : Int32} {s0 : St} {ρ : Int64} {σ' : St} (h : c_Night_together F a1 s0 = some (ρ, σ')) : gMl l shC D cy ad sa A yX6_together cX6_together 5 (some .long) 1 [.ref (ad 9), .int a1] s0 ρ σ' := by
  refine gM_of (by decide) (Nat.le_of_ble_eq_true rfl) ?_
  intro p e s m args below meth c ls X G Y hr hlk hl
  have hl : lv_has ls 5 [(0, .ref (ad 9)), (1, .int a1)] := hl
  have b10 : ∀ n : Nat, ∀ (x1 : Int32) (x2 : Int64) (x4 : Int32) (s0 : St) (H : Heap) (locs : List Loc) (ls : Array Slot), c_Night_together_L10 F  n x1 x2 x4 s0 = some (ρ, σ') → gY shC D cy ad A s0 s H locs → lv_has ls 5 [(0, .ref (ad 9)), (1, .int x1), (2, .long x2), (4, .int x4)] → W p l e (grm 1) s m args below meth c H locs 0 0 (MQ below (va_Ql (fun (q : Int64) (_ : Unit) => q = ρ) (fun _ t => va_P D vwCl (gWl shC cy ad σ') t.heap) A) args s 0 0 A) (F0 m 10 ls []) := by
    intro n
    induction n with
    | zero => intro x1 x2 x4 s0 H locs ls h Y hl; exact (gnone h).elim
    | succ n hk10 =>
      have e : c_Night_together_L10 F  (n + 1) = c_Night_together_L10b F  (c_Night_together_L10 F  n) := rfl
      rw [e]; clear e
      generalize c_Night_together_L10 F  n = k10 at hk10 ⊢
      intro x1 x2 x4 s0 H locs ls h Y hl
      unfold c_Night_together_L10b at h
      refine lv_iload X.1 X.2.1 (dck_at da_X6_together 7 rfl) (lv_at hl 3 rfl) ?_
      refine lv_iconst X.1 X.2.1 (dck_at da_X6_together 8 rfl) ki_4 ?_
      refine lv_icmp_ge (tgt := 36) X.1 X.2.1 (dck_at da_X6_together 9 rfl) rfl (fun c => ?_) (fun c => ?_)
      · have h := gI_pos h c
        refine lv_lload_n X.1 X.2.1 (dck_at da_X6_together 23 rfl) rfl (lv_at hl 2 rfl) ?_
        exact gr_lretO X Y h hr hlk (dck_at da_X6_together 24 rfl)
      · have h := gI_neg h c
        refine lv_lload_n X.1 X.2.1 (dck_at da_X6_together 10 rfl) rfl (lv_at hl 2 rfl) ?_
        refine lv_aload_n X.1 X.2.1 (dck_at da_X6_together 11 rfl) rfl (lv_at hl 0 rfl) ?_
        refine gr_getR X G Y fk_RX6_9 clC_9 rfl (dck_at da_X6_together 12 rfl) ?_
        refine lv_iload_n X.1 X.2.1 (dck_at da_X6_together 13 rfl) rfl (lv_at hl 1 rfl) ?_
        refine lv_iconst X.1 X.2.1 (dck_at da_X6_together 14 rfl) ki_4 ?_
        refine lv_imul X.1 X.2.1 (dck_at da_X6_together 15 rfl) ?_
        refine lv_iload X.1 X.2.1 (dck_at da_X6_together 16 rfl) (lv_at hl 3 rfl) ?_
        refine lv_iadd X.1 X.2.1 (dck_at da_X6_together 17 rfl) ?_
        obtain ⟨hin, h⟩ := gI_if h
        refine gr_lald X G Y clC_10 hin (dck_at da_X6_together 18 rfl) ?_
        refine lv_ladd X.1 X.2.1 (dck_at da_X6_together 19 rfl) ?_
        refine lv_lstore_n (lv' := [(2, .long (x2 + (s0.2 10 ((x1 * (4 : Int32)) + x4).toNatClampNeg))), (0, .ref (ad 9)), (1, .int x1), (4, .int x4)]) X.1 X.2.1 (dck_at da_X6_together 20 rfl) rfl hl (by decide) rfl (fun ls hl => ?_)
        refine lv_iinc (v := x4 + (1 : Int32)) (lv' := [(4, .int (x4 + (1 : Int32))), (2, .long (x2 + (s0.2 10 ((x1 * (4 : Int32)) + x4).toNatClampNeg))), (0, .ref (ad 9)), (1, .int x1)]) X.1 X.2.1 (dck_at da_X6_together 21 rfl) hl (k := 3) rfl (congrArg (HAdd.hAdd _) ki_1) (by decide) rfl (fun ls hl => ?_)
        refine lv_goto (tgt := 10) X.1 X.2.1 (dck_at da_X6_together 22 rfl) rfl ?_
        exact hk10 x1 (x2 + (s0.2 10 ((x1 * (4 : Int32)) + x4).toNatClampNeg)) (x4 + (1 : Int32)) s0 _ _ _ h Y (lv_sub hl [2, 3, 1, 0] rfl)
  unfold c_Night_together at h
  refine lv_aload_n X.1 X.2.1 (dck_at da_X6_together 0 rfl) rfl (lv_at hl 0 rfl) ?_
  refine gr_getR X G Y fk_RX6_15 clC_9 rfl (dck_at da_X6_together 1 rfl) ?_
  refine lv_iload_n X.1 X.2.1 (dck_at da_X6_together 2 rfl) rfl (lv_at hl 1 rfl) ?_
  obtain ⟨hin, h⟩ := gI_if h
  refine gr_lald X G Y clC_11 hin (dck_at da_X6_together 3 rfl) ?_
  refine lv_lstore_n (lv' := [(2, .long (s0.2 11 (a1).toNatClampNeg)), (0, .ref (ad 9)), (1, .int a1)]) X.1 X.2.1 (dck_at da_X6_together 4 rfl) rfl hl (by decide) rfl (fun ls hl => ?_)
  refine lv_iconst X.1 X.2.1 (dck_at da_X6_together 5 rfl) ki_0 ?_
  refine lv_istore (lv' := [(4, .int (0 : Int32)), (2, .long (s0.2 11 (a1).toNatClampNeg)), (0, .ref (ad 9)), (1, .int a1)]) X.1 X.2.1 (dck_at da_X6_together 6 rfl) hl (by decide) rfl (fun ls hl => ?_)
  exact b10 F a1 (s0.2 11 (a1).toNatClampNeg) (0 : Int32) s0 _ _ _ h Y (lv_sub hl [2, 3, 1, 0] rfl)
set_option maxRecDepth 100000 in
set_option maxHeartbeats 4000000 in
theorem ok_c_Night_pulls {l : Launch} {D : va_G} {cy : Nat → ClassId} {ad sa : Nat → Nat} {A : Nat → Prop} {F : Nat} {a2 : Int32} {s0 : St} {ρ : Int32} {σ' : St} (h : c_Night_pulls F a2 s0 = some (ρ, σ')) : gMi l shC D cy ad sa A yX6_pulls cX6_pulls 5 (some .int) 1 [.ref (ad 9), .ref (ad 6), .int a2] s0 ρ σ' := by
  refine gM_of (by decide) (Nat.le_of_ble_eq_true rfl) ?_
  intro p e s m args below meth c ls X G Y hr hlk hl
  have hl : lv_has ls 5 [(0, .ref (ad 9)), (1, .ref (ad 6)), (2, .int a2)] := hl
  have b5 : ∀ n : Nat, ∀ (x2 : Int32) (x3 : Int32) (x4 : Int32) (s0 : St) (H : Heap) (locs : List Loc) (ls : Array Slot), c_Night_pulls_L5 F  n x2 x3 x4 s0 = some (ρ, σ') → gY shC D cy ad A s0 s H locs → lv_has ls 5 [(0, .ref (ad 9)), (1, .ref (ad 6)), (2, .int x2), (3, .int x3), (4, .int x4)] → W p l e (grm 1) s m args below meth c H locs 0 0 (MQ below (va_Qi (fun (q : Int32) (_ : Unit) => q = ρ) (fun _ t => va_P D vwCl (gWl shC cy ad σ') t.heap) A) args s 0 0 A) (F0 m 5 ls []) := by
    intro n
    induction n with
    | zero => intro x2 x3 x4 s0 H locs ls h Y hl; exact (gnone h).elim
    | succ n hk5 =>
      have e : c_Night_pulls_L5 F  (n + 1) = c_Night_pulls_L5b F  (c_Night_pulls_L5 F  n) := rfl
      rw [e]; clear e
      generalize c_Night_pulls_L5 F  n = k5 at hk5 ⊢
      intro x2 x3 x4 s0 H locs ls h Y hl
      unfold c_Night_pulls_L5b at h
      refine lv_iload X.1 X.2.1 (dck_at da_X6_pulls 4 rfl) (lv_at hl 4 rfl) ?_
      refine lv_iconst X.1 X.2.1 (dck_at da_X6_pulls 5 rfl) ki_4 ?_
      refine lv_icmp_ge (tgt := 43) X.1 X.2.1 (dck_at da_X6_pulls 6 rfl) rfl (fun c => ?_) (fun c => ?_)
      · have h := gI_pos h c
        refine lv_iload_n X.1 X.2.1 (dck_at da_X6_pulls 27 rfl) rfl (lv_at hl 3 rfl) ?_
        exact gr_iretO X Y h hr rfl hlk (dck_at da_X6_pulls 28 rfl)
      · have h := gI_neg h c
        refine lv_iload_n X.1 X.2.1 (dck_at da_X6_pulls 7 rfl) rfl (lv_at hl 3 rfl) ?_
        refine lv_aload_n X.1 X.2.1 (dck_at da_X6_pulls 8 rfl) rfl (lv_at hl 1 rfl) ?_
        refine gr_getR X G Y fk_RX6_88 clC_6 rfl (dck_at da_X6_pulls 9 rfl) ?_
        refine lv_iload X.1 X.2.1 (dck_at da_X6_pulls 10 rfl) (lv_at hl 4 rfl) ?_
        obtain ⟨hin, h⟩ := gI_if h
        refine gr_iald X G Y clC_7 hin (dck_at da_X6_pulls 11 rfl) ?_
        refine lv_aload_n X.1 X.2.1 (dck_at da_X6_pulls 12 rfl) rfl (lv_at hl 0 rfl) ?_
        refine gr_getR X G Y fk_RX6_21 clC_9 rfl (dck_at da_X6_pulls 13 rfl) ?_
        refine lv_iload_n X.1 X.2.1 (dck_at da_X6_pulls 14 rfl) rfl (lv_at hl 2 rfl) ?_
        refine gr_getS1 X G Y wm_636 (dck_at da_X6_pulls 15 rfl) ?_
        refine lv_iload X.1 X.2.1 (dck_at da_X6_pulls 16 rfl) (lv_at hl 4 rfl) ?_
        obtain ⟨hin, h⟩ := gI_if h
        refine gr_tald1 X G Y hin (dck_at da_X6_pulls 17 rfl) ?_
        refine lv_iadd X.1 X.2.1 (dck_at da_X6_pulls 18 rfl) ?_
        refine lv_iconst X.1 X.2.1 (dck_at da_X6_pulls 19 rfl) ki_4 ?_
        refine lv_irem X.1 X.2.1 (dck_at da_X6_pulls 20 rfl) (by decide) ?_
        obtain ⟨hin, h⟩ := gI_if h
        refine gr_iald X G Y clC_13 hin (dck_at da_X6_pulls 21 rfl) ?_
        refine lv_imul X.1 X.2.1 (dck_at da_X6_pulls 22 rfl) ?_
        refine lv_iadd X.1 X.2.1 (dck_at da_X6_pulls 23 rfl) ?_
        refine lv_istore_n (lv' := [(3, .int (x3 + ((s0.1 7 (x4).toNatClampNeg) * (s0.1 13 ((x2 + (gTurns (x4).toNatClampNeg)) - (x2 + (gTurns (x4).toNatClampNeg)) / (4 : Int32) * (4 : Int32)).toNatClampNeg)))), (0, .ref (ad 9)), (1, .ref (ad 6)), (2, .int x2), (4, .int x4)]) X.1 X.2.1 (dck_at da_X6_pulls 24 rfl) rfl hl (by decide) rfl (fun ls hl => ?_)
        refine lv_iinc (v := x4 + (1 : Int32)) (lv' := [(4, .int (x4 + (1 : Int32))), (3, .int (x3 + ((s0.1 7 (x4).toNatClampNeg) * (s0.1 13 ((x2 + (gTurns (x4).toNatClampNeg)) - (x2 + (gTurns (x4).toNatClampNeg)) / (4 : Int32) * (4 : Int32)).toNatClampNeg)))), (0, .ref (ad 9)), (1, .ref (ad 6)), (2, .int x2)]) X.1 X.2.1 (dck_at da_X6_pulls 25 rfl) hl (k := 4) rfl (congrArg (HAdd.hAdd _) ki_1) (by decide) rfl (fun ls hl => ?_)
        refine lv_goto (tgt := 5) X.1 X.2.1 (dck_at da_X6_pulls 26 rfl) rfl ?_
        exact hk5 x2 (x3 + ((s0.1 7 (x4).toNatClampNeg) * (s0.1 13 ((x2 + (gTurns (x4).toNatClampNeg)) - (x2 + (gTurns (x4).toNatClampNeg)) / (4 : Int32) * (4 : Int32)).toNatClampNeg))) (x4 + (1 : Int32)) s0 _ _ _ h Y (lv_sub hl [2, 3, 4, 1, 0] rfl)
  unfold c_Night_pulls at h
  refine lv_iconst X.1 X.2.1 (dck_at da_X6_pulls 0 rfl) ki_0 ?_
  refine lv_istore_n (lv' := [(3, .int (0 : Int32)), (0, .ref (ad 9)), (1, .ref (ad 6)), (2, .int a2)]) X.1 X.2.1 (dck_at da_X6_pulls 1 rfl) rfl hl (by decide) rfl (fun ls hl => ?_)
  refine lv_iconst X.1 X.2.1 (dck_at da_X6_pulls 2 rfl) ki_0 ?_
  refine lv_istore (lv' := [(4, .int (0 : Int32)), (3, .int (0 : Int32)), (0, .ref (ad 9)), (1, .ref (ad 6)), (2, .int a2)]) X.1 X.2.1 (dck_at da_X6_pulls 3 rfl) hl (by decide) rfl (fun ls hl => ?_)
  exact b5 F a2 (0 : Int32) (0 : Int32) s0 _ _ _ h Y (lv_sub hl [2, 3, 4, 1, 0] rfl)
set_option maxRecDepth 100000 in
set_option maxHeartbeats 4000000 in
theorem ok_c_Land_beside {l : Launch} {D : va_G} {cy : Nat → ClassId} {ad sa : Nat → Nat} {A : Nat → Prop} {F : Nat} {a0 : Int32} {a1 : Int32} {s0 : St} {ρ : Int32} {σ' : St} (h : c_Land_beside F a0 a1 s0 = some (ρ, σ')) : gMi l shC D cy ad sa A yX3_beside cX3_beside 2 (some .int) 1 [.int a0, .int a1] s0 ρ σ' := by
  refine gM_of (by decide) (Nat.le_of_ble_eq_true rfl) ?_
  intro p e s m args below meth c ls X G Y hr hlk hl
  have hl : lv_has ls 2 [(0, .int a0), (1, .int a1)] := hl
  unfold c_Land_beside at h
  refine lv_iload_n X.1 X.2.1 (dck_at da_X3_beside 0 rfl) rfl (lv_at hl 1 rfl) ?_
  by_cases c0 : a1 = (0 : Int32)
  · have h := gI_pos h c0
    refine lv_tableIn (tgt := 28) (off := 27) X.1 X.2.1 (dck_at da_X3_beside 1 rfl) (by rw [c0]; decide) (by rw [c0]; decide) (by rw [c0]; rfl) rfl ?_
    refine lv_iload_n X.1 X.2.1 (dck_at da_X3_beside 2 rfl) rfl (lv_at hl 0 rfl) ?_
    refine lv_bipush X.1 X.2.1 (dck_at da_X3_beside 3 rfl) kb_12 ?_
    refine lv_icmp_ge (tgt := 38) X.1 X.2.1 (dck_at da_X3_beside 4 rfl) rfl (fun c => ?_) (fun c => ?_)
    · have h := gI_pos h c
      refine lv_iload_n X.1 X.2.1 (dck_at da_X3_beside 7 rfl) rfl (lv_at hl 0 rfl) ?_
      refine lv_bipush X.1 X.2.1 (dck_at da_X3_beside 8 rfl) kb_12 ?_
      refine lv_isub X.1 X.2.1 (dck_at da_X3_beside 9 rfl) ?_
      exact gr_iretO X Y h hr rfl hlk (dck_at da_X3_beside 10 rfl)
    · have h := gI_neg h c
      refine lv_iconst X.1 X.2.1 (dck_at da_X3_beside 5 rfl) ki_m1 ?_
      refine lv_goto (tgt := 42) X.1 X.2.1 (dck_at da_X3_beside 6 rfl) rfl ?_
      exact gr_iretO X Y h hr rfl hlk (dck_at da_X3_beside 10 rfl)
  have h := gI_neg h c0
  by_cases c1 : a1 = (1 : Int32)
  · have h := gI_pos h c1
    refine lv_tableIn (tgt := 43) (off := 42) X.1 X.2.1 (dck_at da_X3_beside 1 rfl) (by rw [c1]; decide) (by rw [c1]; decide) (by rw [c1]; rfl) rfl ?_
    refine lv_iload_n X.1 X.2.1 (dck_at da_X3_beside 11 rfl) rfl (lv_at hl 0 rfl) ?_
    refine lv_bipush X.1 X.2.1 (dck_at da_X3_beside 12 rfl) kb_12 ?_
    refine lv_irem X.1 X.2.1 (dck_at da_X3_beside 13 rfl) (by decide) ?_
    refine lv_bipush X.1 X.2.1 (dck_at da_X3_beside 14 rfl) kb_11 ?_
    refine lv_icmp_ne (tgt := 56) X.1 X.2.1 (dck_at da_X3_beside 15 rfl) rfl (fun c => ?_) (fun c => ?_)
    · have h := gI_neg h c
      refine lv_iload_n X.1 X.2.1 (dck_at da_X3_beside 18 rfl) rfl (lv_at hl 0 rfl) ?_
      refine lv_iconst X.1 X.2.1 (dck_at da_X3_beside 19 rfl) ki_1 ?_
      refine lv_iadd X.1 X.2.1 (dck_at da_X3_beside 20 rfl) ?_
      exact gr_iretO X Y h hr rfl hlk (dck_at da_X3_beside 21 rfl)
    · have h := gI_pos h c
      refine lv_iconst X.1 X.2.1 (dck_at da_X3_beside 16 rfl) ki_m1 ?_
      refine lv_goto (tgt := 59) X.1 X.2.1 (dck_at da_X3_beside 17 rfl) rfl ?_
      exact gr_iretO X Y h hr rfl hlk (dck_at da_X3_beside 21 rfl)
  have h := gI_neg h c1
  by_cases c2 : a1 = (2 : Int32)
  · have h := gI_pos h c2
    refine lv_tableIn (tgt := 60) (off := 59) X.1 X.2.1 (dck_at da_X3_beside 1 rfl) (by rw [c2]; decide) (by rw [c2]; decide) (by rw [c2]; rfl) rfl ?_
    refine lv_iload_n X.1 X.2.1 (dck_at da_X3_beside 22 rfl) rfl (lv_at hl 0 rfl) ?_
    refine lv_sipush X.1 X.2.1 (dck_at da_X3_beside 23 rfl) ks_132 ?_
    refine lv_icmp_lt (tgt := 71) X.1 X.2.1 (dck_at da_X3_beside 24 rfl) rfl (fun c => ?_) (fun c => ?_)
    · have h := gI_pos h c
      refine lv_iload_n X.1 X.2.1 (dck_at da_X3_beside 27 rfl) rfl (lv_at hl 0 rfl) ?_
      refine lv_bipush X.1 X.2.1 (dck_at da_X3_beside 28 rfl) kb_12 ?_
      refine lv_iadd X.1 X.2.1 (dck_at da_X3_beside 29 rfl) ?_
      exact gr_iretO X Y h hr rfl hlk (dck_at da_X3_beside 30 rfl)
    · have h := gI_neg h c
      refine lv_iconst X.1 X.2.1 (dck_at da_X3_beside 25 rfl) ki_m1 ?_
      refine lv_goto (tgt := 75) X.1 X.2.1 (dck_at da_X3_beside 26 rfl) rfl ?_
      exact gr_iretO X Y h hr rfl hlk (dck_at da_X3_beside 30 rfl)
  have h := gI_neg h c2
  refine lv_tableOut (tgt := 76) X.1 X.2.1 (dck_at da_X3_beside 1 rfl) (by have t0 := lv_neT (a := 0) c0 rfl; have t1 := lv_neT (a := 1) c1 rfl; have t2 := lv_neT (a := 2) c2 rfl; omega) rfl ?_
  refine lv_iload_n X.1 X.2.1 (dck_at da_X3_beside 31 rfl) rfl (lv_at hl 0 rfl) ?_
  refine lv_bipush X.1 X.2.1 (dck_at da_X3_beside 32 rfl) kb_12 ?_
  refine lv_irem X.1 X.2.1 (dck_at da_X3_beside 33 rfl) (by decide) ?_
  refine lv_if_ne (tgt := 87) X.1 X.2.1 (dck_at da_X3_beside 34 rfl) rfl (fun c => ?_) (fun c => ?_)
  · have h := gI_neg h c
    refine lv_iload_n X.1 X.2.1 (dck_at da_X3_beside 37 rfl) rfl (lv_at hl 0 rfl) ?_
    refine lv_iconst X.1 X.2.1 (dck_at da_X3_beside 38 rfl) ki_1 ?_
    refine lv_isub X.1 X.2.1 (dck_at da_X3_beside 39 rfl) ?_
    exact gr_iretO X Y h hr rfl hlk (dck_at da_X3_beside 40 rfl)
  · have h := gI_pos h c
    refine lv_iconst X.1 X.2.1 (dck_at da_X3_beside 35 rfl) ki_m1 ?_
    refine lv_goto (tgt := 90) X.1 X.2.1 (dck_at da_X3_beside 36 rfl) rfl ?_
    exact gr_iretO X Y h hr rfl hlk (dck_at da_X3_beside 40 rfl)
set_option maxRecDepth 100000 in
set_option maxHeartbeats 4000000 in
theorem ok_c_Night_portion {l : Launch} {D : va_G} {cy : Nat → ClassId} {ad sa : Nat → Nat} {A : Nat → Prop} {F : Nat} {a0 : Int64} {a2 : Int64} {a4 : Int64} {s0 : St} {ρ : Int64} {σ' : St} (h : c_Night_portion F a0 a2 a4 s0 = some (ρ, σ')) : gMl l shC D cy ad sa A yX6_portion cX6_portion 6 (some .long) 1 [.long a0, .long a2, .long a4] s0 ρ σ' := by
  refine gM_of (by decide) (Nat.le_of_ble_eq_true rfl) ?_
  intro p e s m args below meth c ls X G Y hr hlk hl
  have hl : lv_has ls 6 [(0, .long a0), (2, .long a2), (4, .long a4)] := hl
  unfold c_Night_portion at h
  refine lv_lload X.1 X.2.1 (dck_at da_X6_portion 0 rfl) (lv_at hl 2 rfl) ?_
  refine lv_lconst (v := 0) X.1 X.2.1 (dck_at da_X6_portion 1 rfl) rfl ?_
  refine W.lcmp X.1 X.2.1 (dck_at da_X6_portion 2 rfl) ?_
  refine lv_if_gt (tgt := 11) X.1 X.2.1 (dck_at da_X6_portion 3 rfl) rfl (fun c => ?_) (fun c => ?_)
  · have h := gI_pos h c
    refine lv_lload_n X.1 X.2.1 (dck_at da_X6_portion 6 rfl) rfl (lv_at hl 0 rfl) ?_
    refine lv_lload_n X.1 X.2.1 (dck_at da_X6_portion 7 rfl) rfl (lv_at hl 1 rfl) ?_
    refine lv_lmul X.1 X.2.1 (dck_at da_X6_portion 8 rfl) ?_
    refine lv_lload X.1 X.2.1 (dck_at da_X6_portion 9 rfl) (lv_at hl 2 rfl) ?_
    obtain ⟨hz, h⟩ := gI_nz h
    refine lv_ldiv X.1 X.2.1 (dck_at da_X6_portion 10 rfl) hz ?_
    exact gr_lretO X Y h hr hlk (dck_at da_X6_portion 11 rfl)
  · have h := gI_neg h c
    refine lv_lconst (v := 0) X.1 X.2.1 (dck_at da_X6_portion 4 rfl) rfl ?_
    refine lv_goto (tgt := 17) X.1 X.2.1 (dck_at da_X6_portion 5 rfl) rfl ?_
    exact gr_lretO X Y h hr hlk (dck_at da_X6_portion 11 rfl)
set_option maxRecDepth 100000 in
set_option maxHeartbeats 4000000 in
theorem ok_c_Night_arrive {l : Launch} {D : va_G} {cy : Nat → ClassId} {ad sa : Nat → Nat} {A : Nat → Prop} {F : Nat} {a1 : Int32} {a2 : Int32} {a3 : Int64} {s0 : St} {ρ : Int64} {σ' : St} (h : c_Night_arrive F a1 a2 a3 s0 = some (ρ, σ')) : gMl l shC D cy ad sa A yX6_arrive cX6_arrive 5 (some .long) 1 [.ref (ad 9), .int a1, .int a2, .long a3] s0 ρ σ' := by
  refine gM_of (by decide) (Nat.le_of_ble_eq_true rfl) ?_
  intro p e s m args below meth c ls X G Y hr hlk hl
  have hl : lv_has ls 5 [(0, .ref (ad 9)), (1, .int a1), (2, .int a2), (3, .long a3)] := hl
  unfold c_Night_arrive at h
  refine lv_iload_n X.1 X.2.1 (dck_at da_X6_arrive 0 rfl) rfl (lv_at hl 1 rfl) ?_
  refine lv_if_ge (tgt := 6) X.1 X.2.1 (dck_at da_X6_arrive 1 rfl) rfl (fun c => ?_) (fun c => ?_)
  · have h := gI_pos h c
    refine lv_aload_n X.1 X.2.1 (dck_at da_X6_arrive 4 rfl) rfl (lv_at hl 0 rfl) ?_
    refine gr_getR X G Y fk_RX6_18 clC_9 rfl (dck_at da_X6_arrive 5 rfl) ?_
    refine lv_iload_n X.1 X.2.1 (dck_at da_X6_arrive 6 rfl) rfl (lv_at hl 1 rfl) ?_
    refine lv_iconst X.1 X.2.1 (dck_at da_X6_arrive 7 rfl) ki_4 ?_
    refine lv_imul X.1 X.2.1 (dck_at da_X6_arrive 8 rfl) ?_
    refine lv_iload_n X.1 X.2.1 (dck_at da_X6_arrive 9 rfl) rfl (lv_at hl 2 rfl) ?_
    refine lv_iadd X.1 X.2.1 (dck_at da_X6_arrive 10 rfl) ?_
    refine lv_dup2_11 X.1 X.2.1 (dck_at da_X6_arrive 11 rfl) rfl rfl ?_
    obtain ⟨hin, h⟩ := gI_if h
    refine gr_lald X G Y clC_12 hin (dck_at da_X6_arrive 12 rfl) ?_
    refine lv_lload_n X.1 X.2.1 (dck_at da_X6_arrive 13 rfl) rfl (lv_at hl 3 rfl) ?_
    refine lv_ladd X.1 X.2.1 (dck_at da_X6_arrive 14 rfl) ?_
    obtain ⟨hin, h⟩ := gI_if h
    refine gr_last X G Y clC_12 hin (dck_at da_X6_arrive 15 rfl) (fun H locs Y => ?_)
    refine lv_lload_n X.1 X.2.1 (dck_at da_X6_arrive 16 rfl) rfl (lv_at hl 3 rfl) ?_
    exact gr_lretO X Y h hr hlk (dck_at da_X6_arrive 17 rfl)
  · have h := gI_neg h c
    refine lv_lconst (v := 0) X.1 X.2.1 (dck_at da_X6_arrive 2 rfl) rfl ?_
    exact gr_lretO X Y h hr hlk (dck_at da_X6_arrive 3 rfl)
set_option maxRecDepth 100000 in
set_option maxHeartbeats 4000000 in
theorem ok_c_Night_turn {l : Launch} {D : va_G} {cy : Nat → ClassId} {ad sa : Nat → Nat} {A : Nat → Prop} {F : Nat} {a2 : Int32} {a3 : Int32} {a4 : Int64} {s0 : St} {ρ : Int64} {σ' : St} (h : c_Night_turn F a2 a3 a4 s0 = some (ρ, σ')) : gMl l shC D cy ad sa A yX6_turn cX6_turn 14 (some .long) 2 [.ref (ad 9), .ref (ad 6), .int a2, .int a3, .long a4] s0 ρ σ' := by
  refine gM_of (by decide) (Nat.le_of_ble_eq_true rfl) ?_
  intro p e s m args below meth c ls X G Y hr hlk hl
  have hl : lv_has ls 14 [(0, .ref (ad 9)), (1, .ref (ad 6)), (2, .int a2), (3, .int a3), (4, .long a4)] := hl
  have b18 : ∀ n : Nat, ∀ (x2 : Int32) (x3 : Int32) (x4 : Int64) (x6 : Int64) (x8 : Int64) (x10 : Int32) (s0 : St) (H : Heap) (locs : List Loc) (ls : Array Slot), c_Night_turn_L18 F  n x2 x3 x4 x6 x8 x10 s0 = some (ρ, σ') → gY shC D cy ad A s0 s H locs → lv_has ls 14 [(0, .ref (ad 9)), (1, .ref (ad 6)), (2, .int x2), (3, .int x3), (4, .long x4), (6, .long x6), (8, .long x8), (10, .int x10)] → W p l e (grm 2) s m args below meth c H locs 0 0 (MQ below (va_Ql (fun (q : Int64) (_ : Unit) => q = ρ) (fun _ t => va_P D vwCl (gWl shC cy ad σ') t.heap) A) args s 0 0 A) (F0 m 18 ls []) := by
    intro n
    induction n with
    | zero => intro x2 x3 x4 x6 x8 x10 s0 H locs ls h Y hl; exact (gnone h).elim
    | succ n hk18 =>
      have e : c_Night_turn_L18 F  (n + 1) = c_Night_turn_L18b F  (c_Night_turn_L18 F  n) := rfl
      rw [e]; clear e
      generalize c_Night_turn_L18 F  n = k18 at hk18 ⊢
      intro x2 x3 x4 x6 x8 x10 s0 H locs ls h Y hl
      unfold c_Night_turn_L18b at h
      refine lv_iload X.1 X.2.1 (dck_at da_X6_turn 13 rfl) (lv_at hl 7 rfl) ?_
      refine lv_iconst X.1 X.2.1 (dck_at da_X6_turn 14 rfl) ki_4 ?_
      refine lv_icmp_ge (tgt := 86) X.1 X.2.1 (dck_at da_X6_turn 15 rfl) rfl (fun c => ?_) (fun c => ?_)
      · have h := gI_pos h c
        refine lv_lload X.1 X.2.1 (dck_at da_X6_turn 50 rfl) (lv_at hl 6 rfl) ?_
        exact gr_lretO X Y h hr hlk (dck_at da_X6_turn 51 rfl)
      · have h := gI_neg h c
        refine lv_iload_n X.1 X.2.1 (dck_at da_X6_turn 16 rfl) rfl (lv_at hl 3 rfl) ?_
        refine gr_getS1 X G Y wm_636 (dck_at da_X6_turn 17 rfl) ?_
        refine lv_iload X.1 X.2.1 (dck_at da_X6_turn 18 rfl) (lv_at hl 7 rfl) ?_
        obtain ⟨hin, h⟩ := gI_if h
        refine gr_tald1 X G Y hin (dck_at da_X6_turn 19 rfl) ?_
        refine lv_iadd X.1 X.2.1 (dck_at da_X6_turn 20 rfl) ?_
        refine lv_iconst X.1 X.2.1 (dck_at da_X6_turn 21 rfl) ki_4 ?_
        refine lv_irem X.1 X.2.1 (dck_at da_X6_turn 22 rfl) (by decide) ?_
        refine lv_istore (lv' := [(11, .int ((x3 + (gTurns (x10).toNatClampNeg)) - (x3 + (gTurns (x10).toNatClampNeg)) / (4 : Int32) * (4 : Int32))), (0, .ref (ad 9)), (1, .ref (ad 6)), (2, .int x2), (3, .int x3), (4, .long x4), (6, .long x6), (8, .long x8), (10, .int x10)]) X.1 X.2.1 (dck_at da_X6_turn 23 rfl) hl (by decide) rfl (fun ls hl => ?_)
        refine lv_aload_n X.1 X.2.1 (dck_at da_X6_turn 24 rfl) rfl (lv_at hl 2 rfl) ?_
        refine gr_getR X G Y fk_RX6_88 clC_6 rfl (dck_at da_X6_turn 25 rfl) ?_
        refine lv_iload X.1 X.2.1 (dck_at da_X6_turn 26 rfl) (lv_at hl 8 rfl) ?_
        obtain ⟨hin, h⟩ := gI_if h
        refine gr_iald X G Y clC_7 hin (dck_at da_X6_turn 27 rfl) ?_
        refine lv_aload_n X.1 X.2.1 (dck_at da_X6_turn 28 rfl) rfl (lv_at hl 1 rfl) ?_
        refine gr_getR X G Y fk_RX6_21 clC_9 rfl (dck_at da_X6_turn 29 rfl) ?_
        refine lv_iload X.1 X.2.1 (dck_at da_X6_turn 30 rfl) (lv_at hl 0 rfl) ?_
        obtain ⟨hin, h⟩ := gI_if h
        refine gr_iald X G Y clC_13 hin (dck_at da_X6_turn 31 rfl) ?_
        refine lv_imul X.1 X.2.1 (dck_at da_X6_turn 32 rfl) ?_
        refine lv_i2l (v := ((s0.1 7 (x10).toNatClampNeg) * (s0.1 13 ((x3 + (gTurns (x10).toNatClampNeg)) - (x3 + (gTurns (x10).toNatClampNeg)) / (4 : Int32) * (4 : Int32)).toNatClampNeg)).toInt64) X.1 X.2.1 (dck_at da_X6_turn 33 rfl) rfl ?_
        refine lv_lstore (lv' := [(12, .long (((s0.1 7 (x10).toNatClampNeg) * (s0.1 13 ((x3 + (gTurns (x10).toNatClampNeg)) - (x3 + (gTurns (x10).toNatClampNeg)) / (4 : Int32) * (4 : Int32)).toNatClampNeg)).toInt64)), (11, .int ((x3 + (gTurns (x10).toNatClampNeg)) - (x3 + (gTurns (x10).toNatClampNeg)) / (4 : Int32) * (4 : Int32))), (0, .ref (ad 9)), (1, .ref (ad 6)), (2, .int x2), (3, .int x3), (4, .long x4), (6, .long x6), (8, .long x8), (10, .int x10)]) X.1 X.2.1 (dck_at da_X6_turn 34 rfl) hl (by decide) rfl (fun ls hl => ?_)
        refine lv_lload X.1 X.2.1 (dck_at da_X6_turn 35 rfl) (lv_at hl 8 rfl) ?_
        refine lv_aload_n X.1 X.2.1 (dck_at da_X6_turn 36 rfl) rfl (lv_at hl 2 rfl) ?_
        refine lv_iload_n X.1 X.2.1 (dck_at da_X6_turn 37 rfl) rfl (lv_at hl 4 rfl) ?_
        refine lv_iload X.1 X.2.1 (dck_at da_X6_turn 38 rfl) (lv_at hl 1 rfl) ?_
        obtain ⟨r1, s1, hc, h⟩ := gB2_some h
        refine gr_backi Y (gr_runS (as := [.int x2, .int ((x3 + (gTurns (x10).toNatClampNeg)) - (x3 + (gTurns (x10).toNatClampNeg)) / (4 : Int32) * (4 : Int32))]) (rest := [.ref (ad 9), .long x8]) X G Y (ok_c_Land_beside hc) cs_RX6_94 ⟨Nat.le_of_ble_eq_true rfl, Nat.le_of_ble_eq_true rfl⟩ rfl hl.1 (Nat.le_of_ble_eq_true rfl) (dck_at da_X6_turn 39 rfl)) (fun H locs Y => ?_)
        refine lv_iload X.1 X.2.1 (dck_at da_X6_turn 40 rfl) (lv_at hl 1 rfl) ?_
        refine lv_lload X.1 X.2.1 (dck_at da_X6_turn 41 rfl) (lv_at hl 7 rfl) ?_
        refine lv_lload X.1 X.2.1 (dck_at da_X6_turn 42 rfl) (lv_at hl 0 rfl) ?_
        refine lv_lload X.1 X.2.1 (dck_at da_X6_turn 43 rfl) (lv_at hl 6 rfl) ?_
        obtain ⟨r2, s2, hc, h⟩ := gB2_some h
        refine gr_backl Y (gr_runS (as := [.long x6, .long (((s0.1 7 (x10).toNatClampNeg) * (s0.1 13 ((x3 + (gTurns (x10).toNatClampNeg)) - (x3 + (gTurns (x10).toNatClampNeg)) / (4 : Int32) * (4 : Int32)).toNatClampNeg)).toInt64), .long x4]) (rest := [.int ((x3 + (gTurns (x10).toNatClampNeg)) - (x3 + (gTurns (x10).toNatClampNeg)) / (4 : Int32) * (4 : Int32)), .int r1, .ref (ad 9), .long x8]) X G Y (ok_c_Night_portion hc) cs_RX6_80 ⟨Nat.le_of_ble_eq_true rfl, Nat.le_of_ble_eq_true rfl⟩ rfl hl.1 (Nat.le_of_ble_eq_true rfl) (dck_at da_X6_turn 44 rfl)) (fun H locs Y => ?_)
        obtain ⟨r3, s3, hc, h⟩ := gB2_some h
        refine gr_backl Y (gr_runV (as := [.int r1, .int ((x3 + (gTurns (x10).toNatClampNeg)) - (x3 + (gTurns (x10).toNatClampNeg)) / (4 : Int32) * (4 : Int32)), .long r2]) (rest := [.long x8]) X G Y (ok_c_Night_arrive hc) cv_RX6_84 clC_9 ⟨Nat.le_of_ble_eq_true rfl, Nat.le_of_ble_eq_true rfl⟩ rfl hl.1 (Nat.le_of_ble_eq_true rfl) (dck_at da_X6_turn 45 rfl)) (fun H locs Y => ?_)
        refine lv_ladd X.1 X.2.1 (dck_at da_X6_turn 46 rfl) ?_
        refine lv_lstore (lv' := [(8, .long (x8 + r3)), (12, .long (((s0.1 7 (x10).toNatClampNeg) * (s0.1 13 ((x3 + (gTurns (x10).toNatClampNeg)) - (x3 + (gTurns (x10).toNatClampNeg)) / (4 : Int32) * (4 : Int32)).toNatClampNeg)).toInt64)), (11, .int ((x3 + (gTurns (x10).toNatClampNeg)) - (x3 + (gTurns (x10).toNatClampNeg)) / (4 : Int32) * (4 : Int32))), (0, .ref (ad 9)), (1, .ref (ad 6)), (2, .int x2), (3, .int x3), (4, .long x4), (6, .long x6), (10, .int x10)]) X.1 X.2.1 (dck_at da_X6_turn 47 rfl) hl (by decide) rfl (fun ls hl => ?_)
        refine lv_iinc (v := x10 + (1 : Int32)) (lv' := [(10, .int (x10 + (1 : Int32))), (8, .long (x8 + r3)), (12, .long (((s0.1 7 (x10).toNatClampNeg) * (s0.1 13 ((x3 + (gTurns (x10).toNatClampNeg)) - (x3 + (gTurns (x10).toNatClampNeg)) / (4 : Int32) * (4 : Int32)).toNatClampNeg)).toInt64)), (11, .int ((x3 + (gTurns (x10).toNatClampNeg)) - (x3 + (gTurns (x10).toNatClampNeg)) / (4 : Int32) * (4 : Int32))), (0, .ref (ad 9)), (1, .ref (ad 6)), (2, .int x2), (3, .int x3), (4, .long x4), (6, .long x6)]) X.1 X.2.1 (dck_at da_X6_turn 48 rfl) hl (k := 9) rfl (congrArg (HAdd.hAdd _) ki_1) (by decide) rfl (fun ls hl => ?_)
        refine lv_goto (tgt := 18) X.1 X.2.1 (dck_at da_X6_turn 49 rfl) rfl ?_
        exact hk18 x2 x3 x4 x6 (x8 + r3) (x10 + (1 : Int32)) s3 _ _ _ h Y (lv_sub hl [4, 5, 6, 7, 8, 9, 1, 0] rfl)
  unfold c_Night_turn at h
  refine lv_aload_n X.1 X.2.1 (dck_at da_X6_turn 0 rfl) rfl (lv_at hl 0 rfl) ?_
  refine gr_getR X G Y fk_RX6_9 clC_9 rfl (dck_at da_X6_turn 1 rfl) ?_
  refine lv_iload_n X.1 X.2.1 (dck_at da_X6_turn 2 rfl) rfl (lv_at hl 2 rfl) ?_
  refine lv_iconst X.1 X.2.1 (dck_at da_X6_turn 3 rfl) ki_4 ?_
  refine lv_imul X.1 X.2.1 (dck_at da_X6_turn 4 rfl) ?_
  refine lv_iload_n X.1 X.2.1 (dck_at da_X6_turn 5 rfl) rfl (lv_at hl 3 rfl) ?_
  refine lv_iadd X.1 X.2.1 (dck_at da_X6_turn 6 rfl) ?_
  obtain ⟨hin, h⟩ := gI_if h
  refine gr_lald X G Y clC_10 hin (dck_at da_X6_turn 7 rfl) ?_
  refine lv_lstore (lv' := [(6, .long (s0.2 10 ((a2 * (4 : Int32)) + a3).toNatClampNeg)), (0, .ref (ad 9)), (1, .ref (ad 6)), (2, .int a2), (3, .int a3), (4, .long a4)]) X.1 X.2.1 (dck_at da_X6_turn 8 rfl) hl (by decide) rfl (fun ls hl => ?_)
  refine lv_lconst (v := 0) X.1 X.2.1 (dck_at da_X6_turn 9 rfl) rfl ?_
  refine lv_lstore (lv' := [(8, .long (0 : Int64)), (6, .long (s0.2 10 ((a2 * (4 : Int32)) + a3).toNatClampNeg)), (0, .ref (ad 9)), (1, .ref (ad 6)), (2, .int a2), (3, .int a3), (4, .long a4)]) X.1 X.2.1 (dck_at da_X6_turn 10 rfl) hl (by decide) rfl (fun ls hl => ?_)
  refine lv_iconst X.1 X.2.1 (dck_at da_X6_turn 11 rfl) ki_0 ?_
  refine lv_istore (lv' := [(10, .int (0 : Int32)), (8, .long (0 : Int64)), (6, .long (s0.2 10 ((a2 * (4 : Int32)) + a3).toNatClampNeg)), (0, .ref (ad 9)), (1, .ref (ad 6)), (2, .int a2), (3, .int a3), (4, .long a4)]) X.1 X.2.1 (dck_at da_X6_turn 12 rfl) hl (by decide) rfl (fun ls hl => ?_)
  exact b18 F a2 a3 a4 (s0.2 10 ((a2 * (4 : Int32)) + a3).toNatClampNeg) (0 : Int64) (0 : Int32) s0 _ _ _ h Y (lv_sub hl [3, 4, 5, 6, 7, 2, 1, 0] rfl)
set_option maxRecDepth 100000 in
set_option maxHeartbeats 4000000 in
theorem ok_c_Law_sitDown {l : Launch} {D : va_G} {cy : Nat → ClassId} {ad sa : Nat → Nat} {A : Nat → Prop} {F : Nat} {a1 : Int32} {a2 : Int32} {s0 : St} {ρ : Int32} {σ' : St} (h : c_Law_sitDown F a1 a2 s0 = some (ρ, σ')) : gMi l shC D cy ad sa A yX4_sitDown cX4_sitDown 3 (some .int) 1 [.ref (ad 6), .int a1, .int a2] s0 ρ σ' := by
  refine gM_of (by decide) (Nat.le_of_ble_eq_true rfl) ?_
  intro p e s m args below meth c ls X G Y hr hlk hl
  have hl : lv_has ls 3 [(0, .ref (ad 6)), (1, .int a1), (2, .int a2)] := hl
  unfold c_Law_sitDown at h
  refine lv_aload_n X.1 X.2.1 (dck_at da_X4_sitDown 0 rfl) rfl (lv_at hl 0 rfl) ?_
  refine gr_getR X G Y fk_RX4_15 clC_6 rfl (dck_at da_X4_sitDown 1 rfl) ?_
  refine lv_iload_n X.1 X.2.1 (dck_at da_X4_sitDown 2 rfl) rfl (lv_at hl 1 rfl) ?_
  obtain ⟨hin, h⟩ := gI_if h
  refine gr_iald X G Y clC_8 hin (dck_at da_X4_sitDown 3 rfl) ?_
  refine lv_iload_n X.1 X.2.1 (dck_at da_X4_sitDown 4 rfl) rfl (lv_at hl 2 rfl) ?_
  refine lv_bipush X.1 X.2.1 (dck_at da_X4_sitDown 5 rfl) kb_120 ?_
  refine lv_icmp_lt (tgt := 21) X.1 X.2.1 (dck_at da_X4_sitDown 6 rfl) rfl (fun c => ?_) (fun c => ?_)
  · have h := gI_pos h c
    refine lv_iconst X.1 X.2.1 (dck_at da_X4_sitDown 12 rfl) ki_0 ?_
    refine lv_iadd X.1 X.2.1 (dck_at da_X4_sitDown 13 rfl) ?_
    exact gr_iretO X Y h hr rfl hlk (dck_at da_X4_sitDown 14 rfl)
  · have h := gI_neg h c
    refine lv_aload_n X.1 X.2.1 (dck_at da_X4_sitDown 7 rfl) rfl (lv_at hl 0 rfl) ?_
    refine gr_getR X G Y fk_RX4_9 clC_6 rfl (dck_at da_X4_sitDown 8 rfl) ?_
    refine lv_iconst X.1 X.2.1 (dck_at da_X4_sitDown 9 rfl) ki_4 ?_
    obtain ⟨hin, h⟩ := gI_if h
    refine gr_iald X G Y clC_7 hin (dck_at da_X4_sitDown 10 rfl) ?_
    refine lv_goto (tgt := 22) X.1 X.2.1 (dck_at da_X4_sitDown 11 rfl) rfl ?_
    refine lv_iadd X.1 X.2.1 (dck_at da_X4_sitDown 13 rfl) ?_
    exact gr_iretO X Y h hr rfl hlk (dck_at da_X4_sitDown 14 rfl)
set_option maxRecDepth 100000 in
set_option maxHeartbeats 4000000 in
theorem ok_c_Law_rideOn {l : Launch} {D : va_G} {cy : Nat → ClassId} {ad sa : Nat → Nat} {A : Nat → Prop} {F : Nat} {a1 : Int32} {a2 : Int32} {s0 : St} {ρ : Int32} {σ' : St} (h : c_Law_rideOn F a1 a2 s0 = some (ρ, σ')) : gMi l shC D cy ad sa A yX4_rideOn cX4_rideOn 3 (some .int) 1 [.ref (ad 6), .int a1, .int a2] s0 ρ σ' := by
  refine gM_of (by decide) (Nat.le_of_ble_eq_true rfl) ?_
  intro p e s m args below meth c ls X G Y hr hlk hl
  have hl : lv_has ls 3 [(0, .ref (ad 6)), (1, .int a1), (2, .int a2)] := hl
  have b22 : ∀  (s0 : St) (H : Heap) (locs : List Loc) (ls : Array Slot), c_Law_rideOn_J22 F  s0 = some (ρ, σ') → gY shC D cy ad A s0 s H locs → lv_has ls 3 [] → W p l e (grm 1) s m args below meth c H locs 0 0 (MQ below (va_Qi (fun (q : Int32) (_ : Unit) => q = ρ) (fun _ t => va_P D vwCl (gWl shC cy ad σ') t.heap) A) args s 0 0 A) (F0 m 22 ls []) := by
    intro s0 H locs ls h Y hl
    unfold c_Law_rideOn_J22 at h
    refine lv_iconst X.1 X.2.1 (dck_at da_X4_rideOn 12 rfl) ki_0 ?_
    exact gr_iretO X Y h hr rfl hlk (dck_at da_X4_rideOn 13 rfl)
  unfold c_Law_rideOn at h
  refine lv_iload_n X.1 X.2.1 (dck_at da_X4_rideOn 0 rfl) rfl (lv_at hl 1 rfl) ?_
  refine lv_bipush X.1 X.2.1 (dck_at da_X4_rideOn 1 rfl) kb_6 ?_
  refine lv_icmp_ne (tgt := 22) X.1 X.2.1 (dck_at da_X4_rideOn 2 rfl) rfl (fun c => ?_) (fun c => ?_)
  · have h := gI_neg h c
    exact b22 s0 _ _ _ h Y (lv_sub hl [] rfl)
  · have h := gI_pos h c
    refine lv_iload_n X.1 X.2.1 (dck_at da_X4_rideOn 3 rfl) rfl (lv_at hl 2 rfl) ?_
    refine lv_bipush X.1 X.2.1 (dck_at da_X4_rideOn 4 rfl) kb_15 ?_
    refine lv_irem X.1 X.2.1 (dck_at da_X4_rideOn 5 rfl) (by decide) ?_
    refine lv_if_ne (tgt := 22) X.1 X.2.1 (dck_at da_X4_rideOn 6 rfl) rfl (fun c => ?_) (fun c => ?_)
    · have h := gI_neg h c
      exact b22 s0 _ _ _ h Y (lv_sub hl [] rfl)
    · have h := gI_pos h c
      refine lv_aload_n X.1 X.2.1 (dck_at da_X4_rideOn 7 rfl) rfl (lv_at hl 0 rfl) ?_
      refine gr_getR X G Y fk_RX4_9 clC_6 rfl (dck_at da_X4_rideOn 8 rfl) ?_
      refine lv_iconst X.1 X.2.1 (dck_at da_X4_rideOn 9 rfl) ki_5 ?_
      obtain ⟨hin, h⟩ := gI_if h
      refine gr_iald X G Y clC_7 hin (dck_at da_X4_rideOn 10 rfl) ?_
      refine lv_goto (tgt := 23) X.1 X.2.1 (dck_at da_X4_rideOn 11 rfl) rfl ?_
      exact gr_iretO X Y h hr rfl hlk (dck_at da_X4_rideOn 13 rfl)
