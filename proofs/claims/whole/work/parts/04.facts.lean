/-! shapes, and facts of the tables -/
def shC : List gSh := [.inl (11, [3, 37, 71, 76, 78, 82, 0]), .inl (8, [4, 8, 11, 16, 24, 30, 34]), .inl (3, [5, 6, 7]), .inr (0, 144), .inr (0, 144), .inr (0, 144), .inl (4, [9, 10]), .inr (0, 10), .inr (0, 8), .inl (6, [12, 13, 14, 15, 0]), .inr (1, 576), .inr (1, 144), .inr (1, 576), .inr (0, 4), .inl (10, [17, 18, 19, 20, 21, 22, 23, 0, 0, 1]), .inr (0, 4), .inr (0, 4), .inr (0, 4), .inr (0, 6), .inr (1, 24), .inr (0, 4), .inr (0, 4), .inl (2, [25, 26, 27, 28, 29, 0, 1]), .inr (0, 6), .inr (0, 6), .inr (0, 6), .inr (0, 6), .inr (0, 6), .inl (0, [31, 32, 33, 0]), .inr (0, 60), .inr (0, 60), .inr (0, 60), .inl (1, [35, 36, 0]), .inr (0, 8), .inr (0, 8), .inl (8, [38, 42, 45, 50, 58, 64, 68]), .inl (3, [39, 40, 41]), .inr (0, 144), .inr (0, 144), .inr (0, 144), .inl (4, [43, 44]), .inr (0, 10), .inr (0, 8), .inl (6, [46, 47, 48, 49, 0]), .inr (1, 576), .inr (1, 144), .inr (1, 576), .inr (0, 4), .inl (10, [51, 52, 53, 54, 55, 56, 57, 0, 0, 1]), .inr (0, 4), .inr (0, 4), .inr (0, 4), .inr (0, 6), .inr (1, 24), .inr (0, 4), .inr (0, 4), .inl (2, [59, 60, 61, 62, 63, 0, 1]), .inr (0, 6), .inr (0, 6), .inr (0, 6), .inr (0, 6), .inr (0, 6), .inl (0, [65, 66, 67, 0]), .inr (0, 60), .inr (0, 60), .inr (0, 60), .inl (1, [69, 70, 0]), .inr (0, 8), .inr (0, 8), .inl (5, [72, 0, 73, 74, 0, 75, 1]), .inr (0, 10), .inr (0, 144), .inr (0, 4), .inr (0, 4), .inl (9, [77, 0]), .inr (2, 160), .inl (7, [79, 80, 81]), .inr (1, 96), .inr (0, 4), .inr (0, 4), .inr (0, 9)]
def shM : List gSh := [.inl (12, [3, 4, 5, 6, 7, 8, 9, 0, 0, 0, 10, 11, 12, 0, 0, 13, 14, 15, 0, 16, 17, 0, 18, 19, 20, 21, 22, 0, 23, 24, 25, 0, 26, 27, 28, 29, 30, 0, 31, 32, 33, 34]), .inr (0, 9), .inr (0, 144), .inr (0, 144), .inr (0, 144), .inr (0, 10), .inr (0, 8), .inr (0, 160), .inr (0, 144), .inr (1, 720), .inr (1, 720), .inr (0, 4), .inr (0, 4), .inr (0, 4), .inr (0, 6), .inr (1, 24), .inr (0, 6), .inr (0, 6), .inr (0, 6), .inr (0, 6), .inr (0, 6), .inr (0, 60), .inr (0, 60), .inr (0, 60), .inr (0, 8), .inr (0, 8), .inr (0, 10), .inr (0, 760), .inr (1, 720), .inr (0, 4), .inr (0, 4), .inr (1, 96), .inr (1, 24)]
theorem gw_ofGood {w : Cond} (h : w ∈ lw_tbl) (g : goodWord w = true) : w ∈ gw := gw_mem h g
theorem gw_ps (ws : List Cond) (ps : List Nat) (hp : ws = ps.filterMap (fun i => lw_tbl[i]?)) (h : ws.all goodWord = true) : ∀ w ∈ ws, w ∈ gw := fun w hw => gw_mem (by rw [hp] at hw; obtain ⟨i, -, hi⟩ := List.mem_filterMap.mp hw; exact List.mem_of_getElem? hi) (List.all_eq_true.mp h w hw)
theorem ki_m1 : Int32.ofInt (-1) = (-1 : Int32) := by decide
theorem kb_m4 : (Int8.ofInt (-4)).toInt32 = (-4 : Int32) := by decide
theorem kb_m20 : (Int8.ofInt (-20)).toInt32 = (-20 : Int32) := by decide
theorem kb_m11 : (Int8.ofInt (-11)).toInt32 = (-11 : Int32) := by decide
theorem ki_4 : Int32.ofInt (4) = (4 : Int32) := by decide
theorem kb_8 : (Int8.ofInt (8)).toInt32 = (8 : Int32) := by decide
theorem wm_394 : (Jvm.Cond.methodLink "SheGoesOut" (365 : Nat) ({ cls := "SheGoesOut", name := "reasonOf", desc := "(I)I" } : Jvm.MethodName)) ∈ gw := gw_at 394 (by decide +kernel) (by decide +kernel)
theorem wm_395 : (Jvm.Cond.static ({ cls := "SheGoesOut", name := "reasonOf", desc := "(I)I" } : Jvm.MethodName)) ∈ gw := gw_at 395 (by decide +kernel) (by decide +kernel)
theorem wm_47 : (Jvm.Cond.initialized "SheGoesOut") ∈ gw := gw_at 47 (by decide +kernel) (by decide +kernel)
theorem wm_396 : (Jvm.Cond.code ({ cls := "SheGoesOut", name := "reasonOf", desc := "(I)I" } : Jvm.MethodName) prog_1_method_57_code (1 : Nat) (Option.some Jvm.ClassFile.FieldType.int)) ∈ gw := gw_at 396 (by decide +kernel) (by decide +kernel)
theorem cs_RX11_365 : gcs RX11 365 yX11_reasonOf cX11_reasonOf 1 (some .int) 1 := ⟨⟨wm_394, wm_395, wm_47, wm_396⟩, by decide, by decide, by decide +kernel⟩
theorem ki_0 : Int32.ofInt (0) = (0 : Int32) := by decide
theorem ki_1 : Int32.ofInt (1) = (1 : Int32) := by decide
theorem wm_384 : (Jvm.Cond.methodLink "SheGoesOut" (68 : Nat) ({ cls := "SheGoesOut", name := "isIn", desc := "(III)Z" } : Jvm.MethodName)) ∈ gw := gw_at 384 (by decide +kernel) (by decide +kernel)
theorem wm_385 : (Jvm.Cond.static ({ cls := "SheGoesOut", name := "isIn", desc := "(III)Z" } : Jvm.MethodName)) ∈ gw := gw_at 385 (by decide +kernel) (by decide +kernel)
theorem wm_386 : (Jvm.Cond.code ({ cls := "SheGoesOut", name := "isIn", desc := "(III)Z" } : Jvm.MethodName) prog_1_method_46_code (3 : Nat) (Option.some Jvm.ClassFile.FieldType.boolean)) ∈ gw := gw_at 386 (by decide +kernel) (by decide +kernel)
theorem cs_RX11_68 : gcs RX11 68 yX11_isIn cX11_isIn 3 (some .boolean) 3 := ⟨⟨wm_384, wm_385, wm_47, wm_386⟩, by decide, by decide, by decide +kernel⟩
theorem inW_X11 : ∀ w ∈ u_ws RX11 TX11 7, w ∈ gw := gw_ps _ [362, 364, 366, 368, 370, 372, 374] (by decide +kernel) (by decide +kernel)
theorem wm_360 : (Jvm.Cond.fieldLink "SheGoesOut" (40 : Nat) "SheGoesOut" "refused" "[I") ∈ gw := gw_at 360 (by decide +kernel) (by decide +kernel)
theorem fk_RX11_40 : gfk RX11 40 11 5 := ⟨RX11, TX11, 7, rfl, inW_X11, by decide, wm_360⟩
theorem clC_0 : shC[0]? = some (.inl (11, [3, 37, 71, 76, 78, 82, 0])) := rfl
theorem clC_80 : shC[80]? = some (.inr (0, 9)) := rfl
theorem wm_397 : (Jvm.Cond.constant "SheGoesOut" (368 : Nat) (1000000 : Int32)) ∈ gw := gw_at 397 (by decide +kernel) (by decide +kernel)
theorem wm_390 : (Jvm.Cond.methodLink "SheGoesOut" (55 : Nat) ({ cls := "SheGoesOut", name := "refuse", desc := "(I)I" } : Jvm.MethodName)) ∈ gw := gw_at 390 (by decide +kernel) (by decide +kernel)
theorem wm_392 : (Jvm.Cond.instanceMethod ({ cls := "SheGoesOut", name := "refuse", desc := "(I)I" } : Jvm.MethodName)) ∈ gw := gw_at 392 (by decide +kernel) (by decide +kernel)
theorem wm_0 : (Jvm.Cond.selects "SheGoesOut" ({ cls := "SheGoesOut", name := "refuse", desc := "(I)I" } : Jvm.MethodName) ({ cls := "SheGoesOut", name := "refuse", desc := "(I)I" } : Jvm.MethodName)) ∈ gw := gw_at 0 (by decide +kernel) (by decide +kernel)
theorem wm_393 : (Jvm.Cond.code ({ cls := "SheGoesOut", name := "refuse", desc := "(I)I" } : Jvm.MethodName) prog_1_method_56_code (3 : Nat) (Option.some Jvm.ClassFile.FieldType.int)) ∈ gw := gw_at 393 (by decide +kernel) (by decide +kernel)
theorem cv_RX11_55 : gcv RX11 55 yX11_refuse cX11_refuse 3 (some .int) 1 11 := ⟨⟨wm_390, wm_392, wm_0, wm_47, wm_393⟩, ⟨by decide, by decide, by decide +kernel⟩, ⟨_, rfl, rfl⟩⟩
theorem ks_143 : (Int16.ofInt (143)).toInt32 = (143 : Int32) := by decide
theorem wm_381 : (Jvm.Cond.methodLink "SheGoesOut" (48 : Nat) ({ cls := "SheGoesOut", name := "isCell", desc := "(I)Z" } : Jvm.MethodName)) ∈ gw := gw_at 381 (by decide +kernel) (by decide +kernel)
theorem wm_382 : (Jvm.Cond.static ({ cls := "SheGoesOut", name := "isCell", desc := "(I)Z" } : Jvm.MethodName)) ∈ gw := gw_at 382 (by decide +kernel) (by decide +kernel)
theorem wm_383 : (Jvm.Cond.code ({ cls := "SheGoesOut", name := "isCell", desc := "(I)Z" } : Jvm.MethodName) prog_1_method_47_code (1 : Nat) (Option.some Jvm.ClassFile.FieldType.boolean)) ∈ gw := gw_at 383 (by decide +kernel) (by decide +kernel)
theorem cs_RX11_48 : gcs RX11 48 yX11_isCell cX11_isCell 1 (some .boolean) 1 := ⟨⟨wm_381, wm_382, wm_47, wm_383⟩, by decide, by decide, by decide +kernel⟩
theorem kb_7 : (Int8.ofInt (7)).toInt32 = (7 : Int32) := by decide
theorem wm_387 : (Jvm.Cond.methodLink "SheGoesOut" (52 : Nat) ({ cls := "SheGoesOut", name := "isKind", desc := "(I)Z" } : Jvm.MethodName)) ∈ gw := gw_at 387 (by decide +kernel) (by decide +kernel)
theorem wm_388 : (Jvm.Cond.static ({ cls := "SheGoesOut", name := "isKind", desc := "(I)Z" } : Jvm.MethodName)) ∈ gw := gw_at 388 (by decide +kernel) (by decide +kernel)
theorem wm_389 : (Jvm.Cond.code ({ cls := "SheGoesOut", name := "isKind", desc := "(I)Z" } : Jvm.MethodName) prog_1_method_48_code (1 : Nat) (Option.some Jvm.ClassFile.FieldType.boolean)) ∈ gw := gw_at 389 (by decide +kernel) (by decide +kernel)
theorem cs_RX11_52 : gcs RX11 52 yX11_isKind cX11_isKind 1 (some .boolean) 1 := ⟨⟨wm_387, wm_388, wm_47, wm_389⟩, by decide, by decide, by decide +kernel⟩
theorem wm_355 : (Jvm.Cond.fieldLink "SheGoesOut" (12 : Nat) "SheGoesOut" "now" "LSheGoesOut$State;") ∈ gw := gw_at 355 (by decide +kernel) (by decide +kernel)
theorem fk_RX11_12 : gfk RX11 12 11 0 := ⟨RX11, TX11, 7, rfl, inW_X11, by decide, wm_355⟩
theorem inW_X8 : ∀ w ∈ u_ws RX8 TX8 7, w ∈ gw := gw_ps _ [280, 282, 284, 286, 288, 290, 292] (by decide +kernel) (by decide +kernel)
theorem wm_264 : (Jvm.Cond.fieldLink "SheGoesOut" (59 : Nat) "SheGoesOut$State" "land" "LSheGoesOut$Land;") ∈ gw := gw_at 264 (by decide +kernel) (by decide +kernel)
theorem fk_RX11_59 : gfk RX11 59 8 0 := ⟨RX8, TX8, 7, rfl, inW_X8, by decide, wm_264⟩
theorem clC_1 : shC[1]? = some (.inl (8, [4, 8, 11, 16, 24, 30, 34])) := rfl
theorem inW_X3 : ∀ w ∈ u_ws RX3 TX3 3, w ∈ gw := gw_ps _ [99, 101, 103] (by decide +kernel) (by decide +kernel)
theorem wm_90 : (Jvm.Cond.fieldLink "SheGoesOut" (63 : Nat) "SheGoesOut$Land" "kinds" "[I") ∈ gw := gw_at 90 (by decide +kernel) (by decide +kernel)
theorem fk_RX11_63 : gfk RX11 63 3 0 := ⟨RX3, TX3, 3, rfl, inW_X3, by decide, wm_90⟩
theorem clC_2 : shC[2]? = some (.inl (3, [5, 6, 7])) := rfl
theorem clC_3 : shC[3]? = some (.inr (0, 144)) := rfl
theorem kb_9 : (Int8.ofInt (9)).toInt32 = (9 : Int32) := by decide
theorem wm_95 : (Jvm.Cond.fieldLink "SheGoesOut" (72 : Nat) "SheGoesOut$Land" "draws" "[I") ∈ gw := gw_at 95 (by decide +kernel) (by decide +kernel)
theorem fk_RX11_72 : gfk RX11 72 3 1 := ⟨RX3, TX3, 3, rfl, inW_X3, by decide, wm_95⟩
theorem clC_4 : shC[4]? = some (.inr (0, 144)) := rfl
theorem wm_97 : (Jvm.Cond.fieldLink "SheGoesOut" (75 : Nat) "SheGoesOut$Land" "searched" "[I") ∈ gw := gw_at 97 (by decide +kernel) (by decide +kernel)
theorem fk_RX11_75 : gfk RX11 75 3 2 := ⟨RX3, TX3, 3, rfl, inW_X3, by decide, wm_97⟩
theorem clC_5 : shC[5]? = some (.inr (0, 144)) := rfl
theorem ks_999 : (Int16.ofInt (999)).toInt32 = (999 : Int32) := by decide
theorem kb_6 : (Int8.ofInt (6)).toInt32 = (6 : Int32) := by decide
theorem ki_3 : Int32.ofInt (3) = (3 : Int32) := by decide
theorem wm_410 : (Jvm.Cond.methodLink "SheGoesOut" (80 : Nat) ({ cls := "SheGoesOut$Law", name := "highest", desc := "(I)I" } : Jvm.MethodName)) ∈ gw := gw_at 410 (by decide +kernel) (by decide +kernel)
theorem wm_411 : (Jvm.Cond.static ({ cls := "SheGoesOut$Law", name := "highest", desc := "(I)I" } : Jvm.MethodName)) ∈ gw := gw_at 411 (by decide +kernel) (by decide +kernel)
theorem wm_50 : (Jvm.Cond.initialized "SheGoesOut$Law") ∈ gw := gw_at 50 (by decide +kernel) (by decide +kernel)
theorem wm_412 : (Jvm.Cond.code ({ cls := "SheGoesOut$Law", name := "highest", desc := "(I)I" } : Jvm.MethodName) prog_6_method_3_code (1 : Nat) (Option.some Jvm.ClassFile.FieldType.int)) ∈ gw := gw_at 412 (by decide +kernel) (by decide +kernel)
theorem cs_RX11_80 : gcs RX11 80 yX4_highest cX4_highest 1 (some .int) 1 := ⟨⟨wm_410, wm_411, wm_50, wm_412⟩, by decide, by decide, by decide +kernel⟩
theorem wm_266 : (Jvm.Cond.fieldLink "SheGoesOut" (83 : Nat) "SheGoesOut$State" "law" "LSheGoesOut$Law;") ∈ gw := gw_at 266 (by decide +kernel) (by decide +kernel)
theorem fk_RX11_83 : gfk RX11 83 8 1 := ⟨RX8, TX8, 7, rfl, inW_X8, by decide, wm_266⟩
theorem inW_X4 : ∀ w ∈ u_ws RX4 TX4 2, w ∈ gw := gw_ps _ [119, 121] (by decide +kernel) (by decide +kernel)
theorem wm_114 : (Jvm.Cond.fieldLink "SheGoesOut" (87 : Nat) "SheGoesOut$Law" "settings" "[I") ∈ gw := gw_at 114 (by decide +kernel) (by decide +kernel)
theorem fk_RX11_87 : gfk RX11 87 4 0 := ⟨RX4, TX4, 2, rfl, inW_X4, by decide, wm_114⟩
theorem clC_6 : shC[6]? = some (.inl (4, [9, 10])) := rfl
theorem clC_7 : shC[7]? = some (.inr (0, 10)) := rfl
theorem wm_118 : (Jvm.Cond.fieldLink "SheGoesOut" (90 : Nat) "SheGoesOut$Law" "sits" "[I") ∈ gw := gw_at 118 (by decide +kernel) (by decide +kernel)
theorem fk_RX11_90 : gfk RX11 90 4 1 := ⟨RX4, TX4, 2, rfl, inW_X4, by decide, wm_118⟩
theorem clC_8 : shC[8]? = some (.inr (0, 8)) := rfl
theorem ks_255 : (Int16.ofInt (255)).toInt32 = (255 : Int32) := by decide
theorem wm_424 : (Jvm.Cond.methodLink "SheGoesOut$Tape" (19 : Nat) ({ cls := "SheGoesOut$Tape", name := "byteOf", desc := "(JI)I" } : Jvm.MethodName)) ∈ gw := gw_at 424 (by decide +kernel) (by decide +kernel)
theorem wm_425 : (Jvm.Cond.static ({ cls := "SheGoesOut$Tape", name := "byteOf", desc := "(JI)I" } : Jvm.MethodName)) ∈ gw := gw_at 425 (by decide +kernel) (by decide +kernel)
theorem wm_57 : (Jvm.Cond.initialized "SheGoesOut$Tape") ∈ gw := gw_at 57 (by decide +kernel) (by decide +kernel)
theorem wm_426 : (Jvm.Cond.code ({ cls := "SheGoesOut$Tape", name := "byteOf", desc := "(JI)I" } : Jvm.MethodName) prog_11_method_2_code (3 : Nat) (Option.some Jvm.ClassFile.FieldType.int)) ∈ gw := gw_at 426 (by decide +kernel) (by decide +kernel)
theorem cs_RX9_19 : gcs RX9 19 yX9_byteOf cX9_byteOf 3 (some .int) 2 := ⟨⟨wm_424, wm_425, wm_57, wm_426⟩, by decide, by decide, by decide +kernel⟩
theorem kb_32 : (Int8.ofInt (32)).toInt32 = (32 : Int32) := by decide
theorem kb_126 : (Int8.ofInt (126)).toInt32 = (126 : Int32) := by decide
theorem cn_RX9_23 : gcn RX9 23 yX11_isIn "SheGoesOut" cX11_isIn 3 (some .boolean) 3 := ⟨⟨List.mem_of_getElem? (i := 11) rfl, wm_385, wm_47, wm_386⟩, by decide, by decide, by decide +kernel⟩
theorem wm_421 : (Jvm.Cond.methodLink "SheGoesOut" (93 : Nat) ({ cls := "SheGoesOut$Tape", name := "canHold", desc := "(JI)Z" } : Jvm.MethodName)) ∈ gw := gw_at 421 (by decide +kernel) (by decide +kernel)
theorem wm_422 : (Jvm.Cond.static ({ cls := "SheGoesOut$Tape", name := "canHold", desc := "(JI)Z" } : Jvm.MethodName)) ∈ gw := gw_at 422 (by decide +kernel) (by decide +kernel)
theorem wm_423 : (Jvm.Cond.code ({ cls := "SheGoesOut$Tape", name := "canHold", desc := "(JI)Z" } : Jvm.MethodName) prog_11_method_3_code (4 : Nat) (Option.some Jvm.ClassFile.FieldType.boolean)) ∈ gw := gw_at 423 (by decide +kernel) (by decide +kernel)
theorem cs_RX11_93 : gcs RX11 93 yX9_canHold cX9_canHold 4 (some .boolean) 2 := ⟨⟨wm_421, wm_422, wm_57, wm_423⟩, by decide, by decide, by decide +kernel⟩
theorem wm_358 : (Jvm.Cond.fieldLink "SheGoesOut" (29 : Nat) "SheGoesOut" "tape" "LSheGoesOut$Tape;") ∈ gw := gw_at 358 (by decide +kernel) (by decide +kernel)
theorem fk_RX11_29 : gfk RX11 29 11 3 := ⟨RX11, TX11, 7, rfl, inW_X11, by decide, wm_358⟩
theorem ks_160 : (Int16.ofInt (160)).toInt32 = (160 : Int32) := by decide
theorem inW_X9 : ∀ w ∈ u_ws RX9 TX9 2, w ∈ gw := gw_ps _ [333, 335] (by decide +kernel) (by decide +kernel)
theorem wm_332 : (Jvm.Cond.fieldLink "SheGoesOut$Tape" (15 : Nat) "SheGoesOut$Tape" "size" "I") ∈ gw := gw_at 332 (by decide +kernel) (by decide +kernel)
theorem fk_RX9_15 : gfk RX9 15 9 1 := ⟨RX9, TX9, 2, rfl, inW_X9, by decide, wm_332⟩
theorem clC_74 : shC[74]? = some (.inl (9, [77, 0])) := rfl
theorem wm_428 : (Jvm.Cond.methodLink "SheGoesOut" (97 : Nat) ({ cls := "SheGoesOut$Tape", name := "room", desc := "()I" } : Jvm.MethodName)) ∈ gw := gw_at 428 (by decide +kernel) (by decide +kernel)
theorem wm_429 : (Jvm.Cond.instanceMethod ({ cls := "SheGoesOut$Tape", name := "room", desc := "()I" } : Jvm.MethodName)) ∈ gw := gw_at 429 (by decide +kernel) (by decide +kernel)
theorem wm_430 : (Jvm.Cond.selects "SheGoesOut$Tape" ({ cls := "SheGoesOut$Tape", name := "room", desc := "()I" } : Jvm.MethodName) ({ cls := "SheGoesOut$Tape", name := "room", desc := "()I" } : Jvm.MethodName)) ∈ gw := gw_at 430 (by decide +kernel) (by decide +kernel)
theorem wm_431 : (Jvm.Cond.code ({ cls := "SheGoesOut$Tape", name := "room", desc := "()I" } : Jvm.MethodName) prog_11_method_4_code (1 : Nat) (Option.some Jvm.ClassFile.FieldType.int)) ∈ gw := gw_at 431 (by decide +kernel) (by decide +kernel)
theorem cv_RX11_97 : gcv RX11 97 yX9_room cX9_room 1 (some .int) 0 9 := ⟨⟨wm_428, wm_429, wm_430, wm_57, wm_431⟩, ⟨by decide, by decide, by decide +kernel⟩, ⟨_, rfl, rfl⟩⟩
theorem wm_331 : (Jvm.Cond.fieldLink "SheGoesOut$Tape" (11 : Nat) "SheGoesOut$Tape" "bytes" "[C") ∈ gw := gw_at 331 (by decide +kernel) (by decide +kernel)
theorem fk_RX9_11 : gfk RX9 11 9 0 := ⟨RX9, TX9, 2, rfl, inW_X9, by decide, wm_331⟩
theorem fp_RX9_15 : gfp RX9 15 9 1 .int := ⟨RX9, TX9, 2, tyX9, rfl, inW_X9, by decide, wm_332, tyX9_ok, nmX9, rfl, rfl⟩
theorem clC_75 : shC[75]? = some (.inr (2, 160)) := rfl
theorem wm_432 : (Jvm.Cond.methodLink "SheGoesOut" (101 : Nat) ({ cls := "SheGoesOut$Tape", name := "append", desc := "(JI)I" } : Jvm.MethodName)) ∈ gw := gw_at 432 (by decide +kernel) (by decide +kernel)
theorem wm_433 : (Jvm.Cond.instanceMethod ({ cls := "SheGoesOut$Tape", name := "append", desc := "(JI)I" } : Jvm.MethodName)) ∈ gw := gw_at 433 (by decide +kernel) (by decide +kernel)
theorem wm_434 : (Jvm.Cond.selects "SheGoesOut$Tape" ({ cls := "SheGoesOut$Tape", name := "append", desc := "(JI)I" } : Jvm.MethodName) ({ cls := "SheGoesOut$Tape", name := "append", desc := "(JI)I" } : Jvm.MethodName)) ∈ gw := gw_at 434 (by decide +kernel) (by decide +kernel)
theorem wm_435 : (Jvm.Cond.code ({ cls := "SheGoesOut$Tape", name := "append", desc := "(JI)I" } : Jvm.MethodName) prog_11_method_5_code (5 : Nat) (Option.some Jvm.ClassFile.FieldType.int)) ∈ gw := gw_at 435 (by decide +kernel) (by decide +kernel)
theorem cv_RX11_101 : gcv RX11 101 yX9_append cX9_append 5 (some .int) 2 9 := ⟨⟨wm_432, wm_433, wm_434, wm_57, wm_435⟩, ⟨by decide, by decide, by decide +kernel⟩, ⟨_, rfl, rfl⟩⟩
theorem kb_m3 : (Int8.ofInt (-3)).toInt32 = (-3 : Int32) := by decide
theorem kb_47 : (Int8.ofInt (47)).toInt32 = (47 : Int32) := by decide
theorem kb_11 : (Int8.ofInt (11)).toInt32 = (11 : Int32) := by decide
theorem kb_12 : (Int8.ofInt (12)).toInt32 = (12 : Int32) := by decide
theorem kb_48 : (Int8.ofInt (48)).toInt32 = (48 : Int32) := by decide
theorem kb_57 : (Int8.ofInt (57)).toInt32 = (57 : Int32) := by decide
theorem wm_448 : (Jvm.Cond.methodLink "SheGoesOut$Tape" (42 : Nat) ({ cls := "SheGoesOut$Tape", name := "digitAt", desc := "(I)I" } : Jvm.MethodName)) ∈ gw := gw_at 448 (by decide +kernel) (by decide +kernel)
theorem wm_450 : (Jvm.Cond.instanceMethod ({ cls := "SheGoesOut$Tape", name := "digitAt", desc := "(I)I" } : Jvm.MethodName)) ∈ gw := gw_at 450 (by decide +kernel) (by decide +kernel)
theorem wm_2 : (Jvm.Cond.selects "SheGoesOut$Tape" ({ cls := "SheGoesOut$Tape", name := "digitAt", desc := "(I)I" } : Jvm.MethodName) ({ cls := "SheGoesOut$Tape", name := "digitAt", desc := "(I)I" } : Jvm.MethodName)) ∈ gw := gw_at 2 (by decide +kernel) (by decide +kernel)
theorem wm_451 : (Jvm.Cond.code ({ cls := "SheGoesOut$Tape", name := "digitAt", desc := "(I)I" } : Jvm.MethodName) prog_11_method_8_code (2 : Nat) (Option.some Jvm.ClassFile.FieldType.int)) ∈ gw := gw_at 451 (by decide +kernel) (by decide +kernel)
theorem cv_RX9_42 : gcv RX9 42 yX9_digitAt cX9_digitAt 2 (some .int) 1 9 := ⟨⟨wm_448, wm_450, wm_2, wm_57, wm_451⟩, ⟨by decide, by decide, by decide +kernel⟩, ⟨_, rfl, rfl⟩⟩
theorem wm_465 : (Jvm.Cond.fieldLink "java/lang/String" (38 : Nat) "java/lang/String" "COMPACT_STRINGS" "Z") ∈ gw := gw_at 465 (by decide +kernel) (by decide +kernel)
theorem wm_1631 : (Jvm.Cond.fieldLink "java/lang/String" (15 : Nat) "java/lang/String" "coder" "B") ∈ gw := gw_at 1631 (by decide +kernel) (by decide +kernel)
theorem wm_461 : (Jvm.Cond.methodLink "java/lang/String" (492 : Nat) ({ cls := "java/lang/String", name := "isLatin1", desc := "()Z" } : Jvm.MethodName)) ∈ gw := gw_at 461 (by decide +kernel) (by decide +kernel)
theorem wm_462 : (Jvm.Cond.instanceMethod ({ cls := "java/lang/String", name := "isLatin1", desc := "()Z" } : Jvm.MethodName)) ∈ gw := gw_at 462 (by decide +kernel) (by decide +kernel)
theorem wm_463 : (Jvm.Cond.selects "java/lang/String" ({ cls := "java/lang/String", name := "isLatin1", desc := "()Z" } : Jvm.MethodName) ({ cls := "java/lang/String", name := "isLatin1", desc := "()Z" } : Jvm.MethodName)) ∈ gw := gw_at 463 (by decide +kernel) (by decide +kernel)
theorem wm_60 : (Jvm.Cond.initialized "java/lang/String") ∈ gw := gw_at 60 (by decide +kernel) (by decide +kernel)
theorem wm_464 : (Jvm.Cond.code ({ cls := "java/lang/String", name := "isLatin1", desc := "()Z" } : Jvm.MethodName) prog_18_method_154_code (1 : Nat) (Option.some Jvm.ClassFile.FieldType.boolean)) ∈ gw := gw_at 464 (by decide +kernel) (by decide +kernel)
theorem cv_RJ0_492 : gcw RJ0 492 yJ0_isLatin1_aae02 cJ0_isLatin1_aae02 1 (some .boolean) 0 := ⟨⟨wm_461, wm_462, wm_463, wm_60, wm_464⟩, ⟨by decide, by decide, by decide +kernel⟩⟩
theorem wm_1632 : (Jvm.Cond.fieldLink "java/lang/String" (9 : Nat) "java/lang/String" "value" "[B") ∈ gw := gw_at 1632 (by decide +kernel) (by decide +kernel)
theorem wm_471 : (Jvm.Cond.methodLink "java/lang/String" (335 : Nat) ({ cls := "java/lang/String", name := "coder", desc := "()B" } : Jvm.MethodName)) ∈ gw := gw_at 471 (by decide +kernel) (by decide +kernel)
theorem wm_472 : (Jvm.Cond.instanceMethod ({ cls := "java/lang/String", name := "coder", desc := "()B" } : Jvm.MethodName)) ∈ gw := gw_at 472 (by decide +kernel) (by decide +kernel)
theorem wm_473 : (Jvm.Cond.selects "java/lang/String" ({ cls := "java/lang/String", name := "coder", desc := "()B" } : Jvm.MethodName) ({ cls := "java/lang/String", name := "coder", desc := "()B" } : Jvm.MethodName)) ∈ gw := gw_at 473 (by decide +kernel) (by decide +kernel)
theorem wm_474 : (Jvm.Cond.code ({ cls := "java/lang/String", name := "coder", desc := "()B" } : Jvm.MethodName) prog_18_method_152_code (1 : Nat) (Option.some Jvm.ClassFile.FieldType.byte)) ∈ gw := gw_at 474 (by decide +kernel) (by decide +kernel)
theorem cv_RJ0_335 : gcw RJ0 335 yJ0_coder_7d493 cJ0_coder_7d493 1 (some .byte) 0 := ⟨⟨wm_471, wm_472, wm_473, wm_60, wm_474⟩, ⟨by decide, by decide, by decide +kernel⟩⟩
theorem wm_467 : (Jvm.Cond.methodLink "java/lang/String" (505 : Nat) ({ cls := "java/lang/String", name := "length", desc := "()I" } : Jvm.MethodName)) ∈ gw := gw_at 467 (by decide +kernel) (by decide +kernel)
theorem wm_468 : (Jvm.Cond.instanceMethod ({ cls := "java/lang/String", name := "length", desc := "()I" } : Jvm.MethodName)) ∈ gw := gw_at 468 (by decide +kernel) (by decide +kernel)
theorem wm_469 : (Jvm.Cond.selects "java/lang/String" ({ cls := "java/lang/String", name := "length", desc := "()I" } : Jvm.MethodName) ({ cls := "java/lang/String", name := "length", desc := "()I" } : Jvm.MethodName)) ∈ gw := gw_at 469 (by decide +kernel) (by decide +kernel)
theorem wm_470 : (Jvm.Cond.code ({ cls := "java/lang/String", name := "length", desc := "()I" } : Jvm.MethodName) prog_18_method_54_code (1 : Nat) (Option.some Jvm.ClassFile.FieldType.int)) ∈ gw := gw_at 470 (by decide +kernel) (by decide +kernel)
theorem cv_RJ0_505 : gcw RJ0 505 yJ0_length_8abf5 cJ0_length_8abf5 1 (some .int) 0 := ⟨⟨wm_467, wm_468, wm_469, wm_60, wm_470⟩, ⟨by decide, by decide, by decide +kernel⟩⟩
theorem wm_493 : (Jvm.Cond.methodLink "java/lang/StringUTF16" (224 : Nat) ({ cls := "java/lang/Math", name := "max", desc := "(II)I" } : Jvm.MethodName)) ∈ gw := gw_at 493 (by decide +kernel) (by decide +kernel)
theorem wm_482 : (Jvm.Cond.static ({ cls := "java/lang/Math", name := "max", desc := "(II)I" } : Jvm.MethodName)) ∈ gw := gw_at 482 (by decide +kernel) (by decide +kernel)
theorem wm_62 : (Jvm.Cond.initialized "java/lang/Math") ∈ gw := gw_at 62 (by decide +kernel) (by decide +kernel)
theorem wm_483 : (Jvm.Cond.code ({ cls := "java/lang/Math", name := "max", desc := "(II)I" } : Jvm.MethodName) prog_17_method_65_code (2 : Nat) (Option.some Jvm.ClassFile.FieldType.int)) ∈ gw := gw_at 483 (by decide +kernel) (by decide +kernel)
theorem wm_494 : (Jvm.Cond.methodLink "java/lang/StringUTF16" (183 : Nat) ({ cls := "java/lang/Math", name := "min", desc := "(II)I" } : Jvm.MethodName)) ∈ gw := gw_at 494 (by decide +kernel) (by decide +kernel)
theorem wm_485 : (Jvm.Cond.static ({ cls := "java/lang/Math", name := "min", desc := "(II)I" } : Jvm.MethodName)) ∈ gw := gw_at 485 (by decide +kernel) (by decide +kernel)
theorem wm_486 : (Jvm.Cond.code ({ cls := "java/lang/Math", name := "min", desc := "(II)I" } : Jvm.MethodName) prog_17_method_69_code (2 : Nat) (Option.some Jvm.ClassFile.FieldType.int)) ∈ gw := gw_at 486 (by decide +kernel) (by decide +kernel)
theorem wm_495 : (Jvm.Cond.constant "java/lang/StringUTF16" (227 : Nat) (65536 : Int32)) ∈ gw := gw_at 495 (by decide +kernel) (by decide +kernel)
theorem wm_516 : (Jvm.Cond.methodLink "java/lang/StringUTF16" (71 : Nat) ({ cls := "java/lang/StringUTF16", name := "getChar", desc := "([BI)C" } : Jvm.MethodName)) ∈ gw := gw_at 516 (by decide +kernel) (by decide +kernel)
theorem wm_517 : (Jvm.Cond.static ({ cls := "java/lang/StringUTF16", name := "getChar", desc := "([BI)C" } : Jvm.MethodName)) ∈ gw := gw_at 517 (by decide +kernel) (by decide +kernel)
theorem wm_63 : (Jvm.Cond.initialized "java/lang/StringUTF16") ∈ gw := gw_at 63 (by decide +kernel) (by decide +kernel)
theorem wm_518 : (Jvm.Cond.code ({ cls := "java/lang/StringUTF16", name := "getChar", desc := "([BI)C" } : Jvm.MethodName) prog_20_method_5_code (2 : Nat) (Option.some Jvm.ClassFile.FieldType.char)) ∈ gw := gw_at 518 (by decide +kernel) (by decide +kernel)
theorem cs_RJ2_71 : gcs RJ2 71 yJ2_getChar_3b067 cJ2_getChar_3b067 2 (some .char) 2 := ⟨⟨wm_516, wm_517, wm_63, wm_518⟩, by decide, by decide, by decide +kernel⟩
theorem kb_16 : (Int8.ofInt (16)).toInt32 = (16 : Int32) := by decide
theorem kb_17 : (Int8.ofInt (17)).toInt32 = (17 : Int32) := by decide
theorem wm_528 : (Jvm.Cond.methodLink "java/lang/StringUTF16" (164 : Nat) ({ cls := "java/lang/Character", name := "isValidCodePoint", desc := "(I)Z" } : Jvm.MethodName)) ∈ gw := gw_at 528 (by decide +kernel) (by decide +kernel)
theorem wm_529 : (Jvm.Cond.static ({ cls := "java/lang/Character", name := "isValidCodePoint", desc := "(I)Z" } : Jvm.MethodName)) ∈ gw := gw_at 529 (by decide +kernel) (by decide +kernel)
theorem wm_65 : (Jvm.Cond.initialized "java/lang/Character") ∈ gw := gw_at 65 (by decide +kernel) (by decide +kernel)
theorem wm_530 : (Jvm.Cond.code ({ cls := "java/lang/Character", name := "isValidCodePoint", desc := "(I)Z" } : Jvm.MethodName) prog_15_method_11_code (2 : Nat) (Option.some Jvm.ClassFile.FieldType.boolean)) ∈ gw := gw_at 530 (by decide +kernel) (by decide +kernel)
theorem cs_RJ2_164 : gcs RJ2 164 yJ11_isValidCodePoint_9a6ad cJ11_isValidCodePoint_9a6ad 2 (some .boolean) 1 := ⟨⟨wm_528, wm_529, wm_65, wm_530⟩, by decide, by decide, by decide +kernel⟩
theorem kb_10 : (Int8.ofInt (10)).toInt32 = (10 : Int32) := by decide
theorem wm_534 : (Jvm.Cond.constant "java/lang/Character" (110 : Nat) (55232 : Int32)) ∈ gw := gw_at 534 (by decide +kernel) (by decide +kernel)
theorem wm_531 : (Jvm.Cond.methodLink "java/lang/StringUTF16" (157 : Nat) ({ cls := "java/lang/Character", name := "highSurrogate", desc := "(I)C" } : Jvm.MethodName)) ∈ gw := gw_at 531 (by decide +kernel) (by decide +kernel)
theorem wm_532 : (Jvm.Cond.static ({ cls := "java/lang/Character", name := "highSurrogate", desc := "(I)C" } : Jvm.MethodName)) ∈ gw := gw_at 532 (by decide +kernel) (by decide +kernel)
theorem wm_533 : (Jvm.Cond.code ({ cls := "java/lang/Character", name := "highSurrogate", desc := "(I)C" } : Jvm.MethodName) prog_15_method_28_code (1 : Nat) (Option.some Jvm.ClassFile.FieldType.char)) ∈ gw := gw_at 533 (by decide +kernel) (by decide +kernel)
theorem cs_RJ2_157 : gcs RJ2 157 yJ11_highSurrogate_5068e cJ11_highSurrogate_5068e 1 (some .char) 1 := ⟨⟨wm_531, wm_532, wm_65, wm_533⟩, by decide, by decide, by decide +kernel⟩
theorem ks_1023 : (Int16.ofInt (1023)).toInt32 = (1023 : Int32) := by decide
theorem wm_538 : (Jvm.Cond.constant "java/lang/Character" (76 : Nat) (56320 : Int32)) ∈ gw := gw_at 538 (by decide +kernel) (by decide +kernel)
theorem wm_535 : (Jvm.Cond.methodLink "java/lang/StringUTF16" (161 : Nat) ({ cls := "java/lang/Character", name := "lowSurrogate", desc := "(I)C" } : Jvm.MethodName)) ∈ gw := gw_at 535 (by decide +kernel) (by decide +kernel)
theorem wm_536 : (Jvm.Cond.static ({ cls := "java/lang/Character", name := "lowSurrogate", desc := "(I)C" } : Jvm.MethodName)) ∈ gw := gw_at 536 (by decide +kernel) (by decide +kernel)
theorem wm_537 : (Jvm.Cond.code ({ cls := "java/lang/Character", name := "lowSurrogate", desc := "(I)C" } : Jvm.MethodName) prog_15_method_29_code (1 : Nat) (Option.some Jvm.ClassFile.FieldType.char)) ∈ gw := gw_at 537 (by decide +kernel) (by decide +kernel)
theorem cs_RJ2_161 : gcs RJ2 161 yJ11_lowSurrogate_5068e cJ11_lowSurrogate_5068e 1 (some .char) 1 := ⟨⟨wm_535, wm_536, wm_65, wm_537⟩, by decide, by decide, by decide +kernel⟩
theorem wm_502 : (Jvm.Cond.methodLink "java/lang/StringUTF16" (48 : Nat) ({ cls := "java/lang/StringUTF16", name := "length", desc := "([B)I" } : Jvm.MethodName)) ∈ gw := gw_at 502 (by decide +kernel) (by decide +kernel)
theorem wm_503 : (Jvm.Cond.static ({ cls := "java/lang/StringUTF16", name := "length", desc := "([B)I" } : Jvm.MethodName)) ∈ gw := gw_at 503 (by decide +kernel) (by decide +kernel)
theorem wm_504 : (Jvm.Cond.code ({ cls := "java/lang/StringUTF16", name := "length", desc := "([B)I" } : Jvm.MethodName) prog_20_method_6_code (1 : Nat) (Option.some Jvm.ClassFile.FieldType.int)) ∈ gw := gw_at 504 (by decide +kernel) (by decide +kernel)
theorem cs_RJ2_48 : gcs RJ2 48 yJ2_length_9d52b cJ2_length_9d52b 1 (some .int) 1 := ⟨⟨wm_502, wm_503, wm_63, wm_504⟩, by decide, by decide, by decide +kernel⟩
theorem wm_505 : (Jvm.Cond.methodLink "java/lang/StringUTF16" (241 : Nat) ({ cls := "java/lang/String", name := "checkBoundsBeginEnd", desc := "(III)V" } : Jvm.MethodName)) ∈ gw := gw_at 505 (by decide +kernel) (by decide +kernel)
theorem wm_506 : (Jvm.Cond.static ({ cls := "java/lang/String", name := "checkBoundsBeginEnd", desc := "(III)V" } : Jvm.MethodName)) ∈ gw := gw_at 506 (by decide +kernel) (by decide +kernel)
theorem wm_507 : (Jvm.Cond.code ({ cls := "java/lang/String", name := "checkBoundsBeginEnd", desc := "(III)V" } : Jvm.MethodName) prog_18_method_158_code (3 : Nat) (Option.none : Option Jvm.ClassFile.FieldType)) ∈ gw := gw_at 507 (by decide +kernel) (by decide +kernel)
theorem cs_RJ2_241 : gcs RJ2 241 yJ0_checkBoundsBeginEnd_23922 cJ0_checkBoundsBeginEnd_23922 3 none 3 := ⟨⟨wm_505, wm_506, wm_60, wm_507⟩, by decide, by decide, by decide +kernel⟩
theorem wm_499 : (Jvm.Cond.methodLink "java/lang/StringUTF16" (96 : Nat) ({ cls := "java/lang/StringUTF16", name := "checkBoundsBeginEnd", desc := "(II[B)V" } : Jvm.MethodName)) ∈ gw := gw_at 499 (by decide +kernel) (by decide +kernel)
theorem wm_500 : (Jvm.Cond.static ({ cls := "java/lang/StringUTF16", name := "checkBoundsBeginEnd", desc := "(II[B)V" } : Jvm.MethodName)) ∈ gw := gw_at 500 (by decide +kernel) (by decide +kernel)
theorem wm_501 : (Jvm.Cond.code ({ cls := "java/lang/StringUTF16", name := "checkBoundsBeginEnd", desc := "(II[B)V" } : Jvm.MethodName) prog_20_method_93_code (3 : Nat) (Option.none : Option Jvm.ClassFile.FieldType)) ∈ gw := gw_at 501 (by decide +kernel) (by decide +kernel)
theorem cs_RJ2_96 : gcs RJ2 96 yJ2_checkBoundsBeginEnd_d044e cJ2_checkBoundsBeginEnd_d044e 3 none 3 := ⟨⟨wm_499, wm_500, wm_63, wm_501⟩, by decide, by decide, by decide +kernel⟩
theorem wm_525 : (Jvm.Cond.methodLink "java/lang/StringUTF16" (232 : Nat) ({ cls := "java/lang/StringUTF16", name := "indexOfSupplementary", desc := "([BIII)I" } : Jvm.MethodName)) ∈ gw := gw_at 525 (by decide +kernel) (by decide +kernel)
theorem wm_526 : (Jvm.Cond.static ({ cls := "java/lang/StringUTF16", name := "indexOfSupplementary", desc := "([BIII)I" } : Jvm.MethodName)) ∈ gw := gw_at 526 (by decide +kernel) (by decide +kernel)
theorem wm_527 : (Jvm.Cond.code ({ cls := "java/lang/StringUTF16", name := "indexOfSupplementary", desc := "([BIII)I" } : Jvm.MethodName) prog_20_method_49_code (7 : Nat) (Option.some Jvm.ClassFile.FieldType.int)) ∈ gw := gw_at 527 (by decide +kernel) (by decide +kernel)
theorem cs_RJ2_232 : gcs RJ2 232 yJ2_indexOfSupplementary_4cfef cJ2_indexOfSupplementary_4cfef 7 (some .int) 4 := ⟨⟨wm_525, wm_526, wm_63, wm_527⟩, by decide, by decide, by decide +kernel⟩
theorem wm_513 : (Jvm.Cond.methodLink "java/lang/StringUTF16" (244 : Nat) ({ cls := "java/lang/StringUTF16", name := "indexOfCharUnsafe", desc := "([BIII)I" } : Jvm.MethodName)) ∈ gw := gw_at 513 (by decide +kernel) (by decide +kernel)
theorem wm_514 : (Jvm.Cond.static ({ cls := "java/lang/StringUTF16", name := "indexOfCharUnsafe", desc := "([BIII)I" } : Jvm.MethodName)) ∈ gw := gw_at 514 (by decide +kernel) (by decide +kernel)
theorem wm_515 : (Jvm.Cond.code ({ cls := "java/lang/StringUTF16", name := "indexOfCharUnsafe", desc := "([BIII)I" } : Jvm.MethodName) prog_20_method_48_code (5 : Nat) (Option.some Jvm.ClassFile.FieldType.int)) ∈ gw := gw_at 515 (by decide +kernel) (by decide +kernel)
theorem cs_RJ2_244 : gcs RJ2 244 yJ2_indexOfCharUnsafe_4cfef cJ2_indexOfCharUnsafe_4cfef 5 (some .int) 4 := ⟨⟨wm_513, wm_514, wm_63, wm_515⟩, by decide, by decide, by decide +kernel⟩
theorem wm_496 : (Jvm.Cond.methodLink "java/lang/StringUTF16" (228 : Nat) ({ cls := "java/lang/StringUTF16", name := "indexOfChar", desc := "([BIII)I" } : Jvm.MethodName)) ∈ gw := gw_at 496 (by decide +kernel) (by decide +kernel)
theorem wm_497 : (Jvm.Cond.static ({ cls := "java/lang/StringUTF16", name := "indexOfChar", desc := "([BIII)I" } : Jvm.MethodName)) ∈ gw := gw_at 497 (by decide +kernel) (by decide +kernel)
theorem wm_498 : (Jvm.Cond.code ({ cls := "java/lang/StringUTF16", name := "indexOfChar", desc := "([BIII)I" } : Jvm.MethodName) prog_20_method_47_code (4 : Nat) (Option.some Jvm.ClassFile.FieldType.int)) ∈ gw := gw_at 498 (by decide +kernel) (by decide +kernel)
theorem cs_RJ2_228 : gcs RJ2 228 yJ2_indexOfChar_4cfef cJ2_indexOfChar_4cfef 4 (some .int) 4 := ⟨⟨wm_496, wm_497, wm_63, wm_498⟩, by decide, by decide, by decide +kernel⟩
theorem wm_490 : (Jvm.Cond.methodLink "java/lang/String" (640 : Nat) ({ cls := "java/lang/StringUTF16", name := "indexOf", desc := "([BIII)I" } : Jvm.MethodName)) ∈ gw := gw_at 490 (by decide +kernel) (by decide +kernel)
theorem wm_491 : (Jvm.Cond.static ({ cls := "java/lang/StringUTF16", name := "indexOf", desc := "([BIII)I" } : Jvm.MethodName)) ∈ gw := gw_at 491 (by decide +kernel) (by decide +kernel)
theorem wm_492 : (Jvm.Cond.code ({ cls := "java/lang/StringUTF16", name := "indexOf", desc := "([BIII)I" } : Jvm.MethodName) prog_20_method_40_code (4 : Nat) (Option.some Jvm.ClassFile.FieldType.int)) ∈ gw := gw_at 492 (by decide +kernel) (by decide +kernel)
theorem cs_RJ0_640 : gcs RJ0 640 yJ2_indexOf_4cfef cJ2_indexOf_4cfef 4 (some .int) 4 := ⟨⟨wm_490, wm_491, wm_63, wm_492⟩, by decide, by decide, by decide +kernel⟩
theorem wm_478 : (Jvm.Cond.methodLink "java/lang/StringLatin1" (88 : Nat) ({ cls := "java/lang/StringLatin1", name := "canEncode", desc := "(I)Z" } : Jvm.MethodName)) ∈ gw := gw_at 478 (by decide +kernel) (by decide +kernel)
theorem wm_479 : (Jvm.Cond.static ({ cls := "java/lang/StringLatin1", name := "canEncode", desc := "(I)Z" } : Jvm.MethodName)) ∈ gw := gw_at 479 (by decide +kernel) (by decide +kernel)
theorem wm_61 : (Jvm.Cond.initialized "java/lang/StringLatin1") ∈ gw := gw_at 61 (by decide +kernel) (by decide +kernel)
theorem wm_480 : (Jvm.Cond.code ({ cls := "java/lang/StringLatin1", name := "canEncode", desc := "(I)Z" } : Jvm.MethodName) prog_19_method_4_code (1 : Nat) (Option.some Jvm.ClassFile.FieldType.boolean)) ∈ gw := gw_at 480 (by decide +kernel) (by decide +kernel)
theorem cs_RJ1_88 : gcs RJ1 88 yJ1_canEncode_9a6ad cJ1_canEncode_9a6ad 1 (some .boolean) 1 := ⟨⟨wm_478, wm_479, wm_61, wm_480⟩, by decide, by decide, by decide +kernel⟩
theorem wm_481 : (Jvm.Cond.methodLink "java/lang/StringLatin1" (92 : Nat) ({ cls := "java/lang/Math", name := "max", desc := "(II)I" } : Jvm.MethodName)) ∈ gw := gw_at 481 (by decide +kernel) (by decide +kernel)
theorem wm_484 : (Jvm.Cond.methodLink "java/lang/StringLatin1" (38 : Nat) ({ cls := "java/lang/Math", name := "min", desc := "(II)I" } : Jvm.MethodName)) ∈ gw := gw_at 484 (by decide +kernel) (by decide +kernel)
theorem wm_487 : (Jvm.Cond.methodLink "java/lang/StringLatin1" (95 : Nat) ({ cls := "java/lang/StringLatin1", name := "indexOfChar", desc := "([BIII)I" } : Jvm.MethodName)) ∈ gw := gw_at 487 (by decide +kernel) (by decide +kernel)
theorem wm_488 : (Jvm.Cond.static ({ cls := "java/lang/StringLatin1", name := "indexOfChar", desc := "([BIII)I" } : Jvm.MethodName)) ∈ gw := gw_at 488 (by decide +kernel) (by decide +kernel)
theorem wm_489 : (Jvm.Cond.code ({ cls := "java/lang/StringLatin1", name := "indexOfChar", desc := "([BIII)I" } : Jvm.MethodName) prog_19_method_23_code (6 : Nat) (Option.some Jvm.ClassFile.FieldType.int)) ∈ gw := gw_at 489 (by decide +kernel) (by decide +kernel)
theorem cs_RJ1_95 : gcs RJ1 95 yJ1_indexOfChar_4cfef cJ1_indexOfChar_4cfef 6 (some .int) 4 := ⟨⟨wm_487, wm_488, wm_61, wm_489⟩, by decide, by decide, by decide +kernel⟩
theorem wm_475 : (Jvm.Cond.methodLink "java/lang/String" (637 : Nat) ({ cls := "java/lang/StringLatin1", name := "indexOf", desc := "([BIII)I" } : Jvm.MethodName)) ∈ gw := gw_at 475 (by decide +kernel) (by decide +kernel)
theorem wm_476 : (Jvm.Cond.static ({ cls := "java/lang/StringLatin1", name := "indexOf", desc := "([BIII)I" } : Jvm.MethodName)) ∈ gw := gw_at 476 (by decide +kernel) (by decide +kernel)
theorem wm_477 : (Jvm.Cond.code ({ cls := "java/lang/StringLatin1", name := "indexOf", desc := "([BIII)I" } : Jvm.MethodName) prog_19_method_22_code (4 : Nat) (Option.some Jvm.ClassFile.FieldType.int)) ∈ gw := gw_at 477 (by decide +kernel) (by decide +kernel)
theorem cs_RJ0_637 : gcs RJ0 637 yJ1_indexOf_4cfef cJ1_indexOf_4cfef 4 (some .int) 4 := ⟨⟨wm_475, wm_476, wm_61, wm_477⟩, by decide, by decide, by decide +kernel⟩
theorem wm_457 : (Jvm.Cond.methodLink "java/lang/String" (633 : Nat) ({ cls := "java/lang/String", name := "indexOf", desc := "(II)I" } : Jvm.MethodName)) ∈ gw := gw_at 457 (by decide +kernel) (by decide +kernel)
theorem wm_458 : (Jvm.Cond.instanceMethod ({ cls := "java/lang/String", name := "indexOf", desc := "(II)I" } : Jvm.MethodName)) ∈ gw := gw_at 458 (by decide +kernel) (by decide +kernel)
theorem wm_459 : (Jvm.Cond.selects "java/lang/String" ({ cls := "java/lang/String", name := "indexOf", desc := "(II)I" } : Jvm.MethodName) ({ cls := "java/lang/String", name := "indexOf", desc := "(II)I" } : Jvm.MethodName)) ∈ gw := gw_at 459 (by decide +kernel) (by decide +kernel)
theorem wm_460 : (Jvm.Cond.code ({ cls := "java/lang/String", name := "indexOf", desc := "(II)I" } : Jvm.MethodName) prog_18_method_80_code (3 : Nat) (Option.some Jvm.ClassFile.FieldType.int)) ∈ gw := gw_at 460 (by decide +kernel) (by decide +kernel)
theorem cv_RJ0_633 : gcw RJ0 633 yJ0_indexOf_7cf53 cJ0_indexOf_7cf53 3 (some .int) 2 := ⟨⟨wm_457, wm_458, wm_459, wm_60, wm_460⟩, ⟨by decide, by decide, by decide +kernel⟩⟩
theorem wm_453 : (Jvm.Cond.methodLink "SheGoesOut$Tape" (48 : Nat) ({ cls := "java/lang/String", name := "indexOf", desc := "(I)I" } : Jvm.MethodName)) ∈ gw := gw_at 453 (by decide +kernel) (by decide +kernel)
theorem wm_454 : (Jvm.Cond.instanceMethod ({ cls := "java/lang/String", name := "indexOf", desc := "(I)I" } : Jvm.MethodName)) ∈ gw := gw_at 454 (by decide +kernel) (by decide +kernel)
theorem wm_455 : (Jvm.Cond.selects "java/lang/String" ({ cls := "java/lang/String", name := "indexOf", desc := "(I)I" } : Jvm.MethodName) ({ cls := "java/lang/String", name := "indexOf", desc := "(I)I" } : Jvm.MethodName)) ∈ gw := gw_at 455 (by decide +kernel) (by decide +kernel)
theorem wm_456 : (Jvm.Cond.code ({ cls := "java/lang/String", name := "indexOf", desc := "(I)I" } : Jvm.MethodName) prog_18_method_79_code (2 : Nat) (Option.some Jvm.ClassFile.FieldType.int)) ∈ gw := gw_at 456 (by decide +kernel) (by decide +kernel)
theorem cv_RX9_48 : gcw RX9 48 yJ0_indexOf_0f7a4 cJ0_indexOf_0f7a4 2 (some .int) 1 := ⟨⟨wm_453, wm_454, wm_455, wm_60, wm_456⟩, ⟨by decide, by decide, by decide +kernel⟩⟩
theorem wm_444 : (Jvm.Cond.methodLink "SheGoesOut$Tape" (27 : Nat) ({ cls := "SheGoesOut$Tape", name := "landFault", desc := "()I" } : Jvm.MethodName)) ∈ gw := gw_at 444 (by decide +kernel) (by decide +kernel)
theorem wm_446 : (Jvm.Cond.instanceMethod ({ cls := "SheGoesOut$Tape", name := "landFault", desc := "()I" } : Jvm.MethodName)) ∈ gw := gw_at 446 (by decide +kernel) (by decide +kernel)
theorem wm_1 : (Jvm.Cond.selects "SheGoesOut$Tape" ({ cls := "SheGoesOut$Tape", name := "landFault", desc := "()I" } : Jvm.MethodName) ({ cls := "SheGoesOut$Tape", name := "landFault", desc := "()I" } : Jvm.MethodName)) ∈ gw := gw_at 1 (by decide +kernel) (by decide +kernel)
theorem wm_447 : (Jvm.Cond.code ({ cls := "SheGoesOut$Tape", name := "landFault", desc := "()I" } : Jvm.MethodName) prog_11_method_9_code (6 : Nat) (Option.some Jvm.ClassFile.FieldType.int)) ∈ gw := gw_at 447 (by decide +kernel) (by decide +kernel)
theorem cv_RX9_27 : gcv RX9 27 yX9_landFault cX9_landFault 6 (some .int) 0 9 := ⟨⟨wm_444, wm_446, wm_1, wm_57, wm_447⟩, ⟨by decide, by decide, by decide +kernel⟩, ⟨_, rfl, rfl⟩⟩
theorem ks_144 : (Int16.ofInt (144)).toInt32 = (144 : Int32) := by decide
theorem wm_89 : (Jvm.Cond.fieldLink "SheGoesOut$Land" (9 : Nat) "SheGoesOut$Land" "kinds" "[I") ∈ gw := gw_at 89 (by decide +kernel) (by decide +kernel)
theorem fk_RX3_9 : gfk RX3 9 3 0 := ⟨RX3, TX3, 3, rfl, inW_X3, by decide, wm_89⟩
theorem wm_94 : (Jvm.Cond.fieldLink "SheGoesOut$Land" (15 : Nat) "SheGoesOut$Land" "draws" "[I") ∈ gw := gw_at 94 (by decide +kernel) (by decide +kernel)
theorem fk_RX3_15 : gfk RX3 15 3 1 := ⟨RX3, TX3, 3, rfl, inW_X3, by decide, wm_94⟩
theorem wm_543 : (Jvm.Cond.methodLink "SheGoesOut$Tape" (53 : Nat) ({ cls := "SheGoesOut$Land", name := "lay", desc := "(II)V" } : Jvm.MethodName)) ∈ gw := gw_at 543 (by decide +kernel) (by decide +kernel)
theorem wm_544 : (Jvm.Cond.instanceMethod ({ cls := "SheGoesOut$Land", name := "lay", desc := "(II)V" } : Jvm.MethodName)) ∈ gw := gw_at 544 (by decide +kernel) (by decide +kernel)
theorem wm_545 : (Jvm.Cond.selects "SheGoesOut$Land" ({ cls := "SheGoesOut$Land", name := "lay", desc := "(II)V" } : Jvm.MethodName) ({ cls := "SheGoesOut$Land", name := "lay", desc := "(II)V" } : Jvm.MethodName)) ∈ gw := gw_at 545 (by decide +kernel) (by decide +kernel)
theorem wm_49 : (Jvm.Cond.initialized "SheGoesOut$Land") ∈ gw := gw_at 49 (by decide +kernel) (by decide +kernel)
theorem wm_546 : (Jvm.Cond.code ({ cls := "SheGoesOut$Land", name := "lay", desc := "(II)V" } : Jvm.MethodName) prog_5_method_3_code (3 : Nat) (Option.none : Option Jvm.ClassFile.FieldType)) ∈ gw := gw_at 546 (by decide +kernel) (by decide +kernel)
theorem cv_RX9_53 : gcv RX9 53 yX3_lay cX3_lay 3 none 2 3 := ⟨⟨wm_543, wm_544, wm_545, wm_49, wm_546⟩, ⟨by decide, by decide, by decide +kernel⟩, ⟨_, rfl, rfl⟩⟩
theorem wm_539 : (Jvm.Cond.methodLink "SheGoesOut$Tape" (31 : Nat) ({ cls := "SheGoesOut$Tape", name := "layOut", desc := "(LSheGoesOut$Land;)I" } : Jvm.MethodName)) ∈ gw := gw_at 539 (by decide +kernel) (by decide +kernel)
theorem wm_541 : (Jvm.Cond.instanceMethod ({ cls := "SheGoesOut$Tape", name := "layOut", desc := "(LSheGoesOut$Land;)I" } : Jvm.MethodName)) ∈ gw := gw_at 541 (by decide +kernel) (by decide +kernel)
theorem wm_3 : (Jvm.Cond.selects "SheGoesOut$Tape" ({ cls := "SheGoesOut$Tape", name := "layOut", desc := "(LSheGoesOut$Land;)I" } : Jvm.MethodName) ({ cls := "SheGoesOut$Tape", name := "layOut", desc := "(LSheGoesOut$Land;)I" } : Jvm.MethodName)) ∈ gw := gw_at 3 (by decide +kernel) (by decide +kernel)
theorem wm_542 : (Jvm.Cond.code ({ cls := "SheGoesOut$Tape", name := "layOut", desc := "(LSheGoesOut$Land;)I" } : Jvm.MethodName) prog_11_method_10_code (10 : Nat) (Option.some Jvm.ClassFile.FieldType.int)) ∈ gw := gw_at 542 (by decide +kernel) (by decide +kernel)
theorem cv_RX9_31 : gcv RX9 31 yX9_layOut cX9_layOut 10 (some .int) 1 9 := ⟨⟨wm_539, wm_541, wm_3, wm_57, wm_542⟩, ⟨by decide, by decide, by decide +kernel⟩, ⟨_, rfl, rfl⟩⟩
theorem wm_440 : (Jvm.Cond.methodLink "SheGoesOut" (105 : Nat) ({ cls := "SheGoesOut$Tape", name := "readLand", desc := "(LSheGoesOut$Land;)I" } : Jvm.MethodName)) ∈ gw := gw_at 440 (by decide +kernel) (by decide +kernel)
theorem wm_441 : (Jvm.Cond.instanceMethod ({ cls := "SheGoesOut$Tape", name := "readLand", desc := "(LSheGoesOut$Land;)I" } : Jvm.MethodName)) ∈ gw := gw_at 441 (by decide +kernel) (by decide +kernel)
theorem wm_442 : (Jvm.Cond.selects "SheGoesOut$Tape" ({ cls := "SheGoesOut$Tape", name := "readLand", desc := "(LSheGoesOut$Land;)I" } : Jvm.MethodName) ({ cls := "SheGoesOut$Tape", name := "readLand", desc := "(LSheGoesOut$Land;)I" } : Jvm.MethodName)) ∈ gw := gw_at 442 (by decide +kernel) (by decide +kernel)
theorem wm_443 : (Jvm.Cond.code ({ cls := "SheGoesOut$Tape", name := "readLand", desc := "(LSheGoesOut$Land;)I" } : Jvm.MethodName) prog_11_method_6_code (4 : Nat) (Option.some Jvm.ClassFile.FieldType.int)) ∈ gw := gw_at 443 (by decide +kernel) (by decide +kernel)
theorem cv_RX11_105 : gcv RX11 105 yX9_readLand cX9_readLand 4 (some .int) 1 9 := ⟨⟨wm_440, wm_441, wm_442, wm_57, wm_443⟩, ⟨by decide, by decide, by decide +kernel⟩, ⟨_, rfl, rfl⟩⟩
theorem wm_547 : (Jvm.Cond.methodLink "SheGoesOut" (109 : Nat) ({ cls := "SheGoesOut", name := "answered", desc := "(I)I" } : Jvm.MethodName)) ∈ gw := gw_at 547 (by decide +kernel) (by decide +kernel)
theorem wm_549 : (Jvm.Cond.instanceMethod ({ cls := "SheGoesOut", name := "answered", desc := "(I)I" } : Jvm.MethodName)) ∈ gw := gw_at 549 (by decide +kernel) (by decide +kernel)
theorem wm_4 : (Jvm.Cond.selects "SheGoesOut" ({ cls := "SheGoesOut", name := "answered", desc := "(I)I" } : Jvm.MethodName) ({ cls := "SheGoesOut", name := "answered", desc := "(I)I" } : Jvm.MethodName)) ∈ gw := gw_at 4 (by decide +kernel) (by decide +kernel)
theorem wm_550 : (Jvm.Cond.code ({ cls := "SheGoesOut", name := "answered", desc := "(I)I" } : Jvm.MethodName) prog_1_method_55_code (2 : Nat) (Option.some Jvm.ClassFile.FieldType.int)) ∈ gw := gw_at 550 (by decide +kernel) (by decide +kernel)
theorem cv_RX11_109 : gcv RX11 109 yX11_answered cX11_answered 2 (some .int) 1 11 := ⟨⟨wm_547, wm_549, wm_4, wm_47, wm_550⟩, ⟨by decide, by decide, by decide +kernel⟩, ⟨_, rfl, rfl⟩⟩
theorem wm_560 : (Jvm.Cond.methodLink "SheGoesOut$Tape" (35 : Nat) ({ cls := "SheGoesOut$Tape", name := "lawFault", desc := "()I" } : Jvm.MethodName)) ∈ gw := gw_at 560 (by decide +kernel) (by decide +kernel)
theorem wm_562 : (Jvm.Cond.instanceMethod ({ cls := "SheGoesOut$Tape", name := "lawFault", desc := "()I" } : Jvm.MethodName)) ∈ gw := gw_at 562 (by decide +kernel) (by decide +kernel)
theorem wm_5 : (Jvm.Cond.selects "SheGoesOut$Tape" ({ cls := "SheGoesOut$Tape", name := "lawFault", desc := "()I" } : Jvm.MethodName) ({ cls := "SheGoesOut$Tape", name := "lawFault", desc := "()I" } : Jvm.MethodName)) ∈ gw := gw_at 5 (by decide +kernel) (by decide +kernel)
theorem wm_563 : (Jvm.Cond.code ({ cls := "SheGoesOut$Tape", name := "lawFault", desc := "()I" } : Jvm.MethodName) prog_11_method_11_code (5 : Nat) (Option.some Jvm.ClassFile.FieldType.int)) ∈ gw := gw_at 563 (by decide +kernel) (by decide +kernel)
theorem cv_RX9_35 : gcv RX9 35 yX9_lawFault cX9_lawFault 5 (some .int) 0 9 := ⟨⟨wm_560, wm_562, wm_5, wm_57, wm_563⟩, ⟨by decide, by decide, by decide +kernel⟩, ⟨_, rfl, rfl⟩⟩
theorem wm_116 : (Jvm.Cond.fieldLink "SheGoesOut$Tape" (61 : Nat) "SheGoesOut$Law" "settings" "[I") ∈ gw := gw_at 116 (by decide +kernel) (by decide +kernel)
theorem fk_RX9_61 : gfk RX9 61 4 0 := ⟨RX4, TX4, 2, rfl, inW_X4, by decide, wm_116⟩
theorem wm_565 : (Jvm.Cond.methodLink "SheGoesOut$Tape" (38 : Nat) ({ cls := "SheGoesOut$Tape", name := "layDown", desc := "(LSheGoesOut$Law;)I" } : Jvm.MethodName)) ∈ gw := gw_at 565 (by decide +kernel) (by decide +kernel)
theorem wm_567 : (Jvm.Cond.instanceMethod ({ cls := "SheGoesOut$Tape", name := "layDown", desc := "(LSheGoesOut$Law;)I" } : Jvm.MethodName)) ∈ gw := gw_at 567 (by decide +kernel) (by decide +kernel)
theorem wm_6 : (Jvm.Cond.selects "SheGoesOut$Tape" ({ cls := "SheGoesOut$Tape", name := "layDown", desc := "(LSheGoesOut$Law;)I" } : Jvm.MethodName) ({ cls := "SheGoesOut$Tape", name := "layDown", desc := "(LSheGoesOut$Law;)I" } : Jvm.MethodName)) ∈ gw := gw_at 6 (by decide +kernel) (by decide +kernel)
theorem wm_568 : (Jvm.Cond.code ({ cls := "SheGoesOut$Tape", name := "layDown", desc := "(LSheGoesOut$Law;)I" } : Jvm.MethodName) prog_11_method_12_code (6 : Nat) (Option.some Jvm.ClassFile.FieldType.int)) ∈ gw := gw_at 568 (by decide +kernel) (by decide +kernel)
theorem cv_RX9_38 : gcv RX9 38 yX9_layDown cX9_layDown 6 (some .int) 1 9 := ⟨⟨wm_565, wm_567, wm_6, wm_57, wm_568⟩, ⟨by decide, by decide, by decide +kernel⟩, ⟨_, rfl, rfl⟩⟩
theorem wm_556 : (Jvm.Cond.methodLink "SheGoesOut" (112 : Nat) ({ cls := "SheGoesOut$Tape", name := "readLaw", desc := "(LSheGoesOut$Law;)I" } : Jvm.MethodName)) ∈ gw := gw_at 556 (by decide +kernel) (by decide +kernel)
theorem wm_557 : (Jvm.Cond.instanceMethod ({ cls := "SheGoesOut$Tape", name := "readLaw", desc := "(LSheGoesOut$Law;)I" } : Jvm.MethodName)) ∈ gw := gw_at 557 (by decide +kernel) (by decide +kernel)
theorem wm_558 : (Jvm.Cond.selects "SheGoesOut$Tape" ({ cls := "SheGoesOut$Tape", name := "readLaw", desc := "(LSheGoesOut$Law;)I" } : Jvm.MethodName) ({ cls := "SheGoesOut$Tape", name := "readLaw", desc := "(LSheGoesOut$Law;)I" } : Jvm.MethodName)) ∈ gw := gw_at 558 (by decide +kernel) (by decide +kernel)
theorem wm_559 : (Jvm.Cond.code ({ cls := "SheGoesOut$Tape", name := "readLaw", desc := "(LSheGoesOut$Law;)I" } : Jvm.MethodName) prog_11_method_7_code (4 : Nat) (Option.some Jvm.ClassFile.FieldType.int)) ∈ gw := gw_at 559 (by decide +kernel) (by decide +kernel)
theorem cv_RX11_112 : gcv RX11 112 yX9_readLaw cX9_readLaw 4 (some .int) 1 9 := ⟨⟨wm_556, wm_557, wm_558, wm_57, wm_559⟩, ⟨by decide, by decide, by decide +kernel⟩, ⟨_, rfl, rfl⟩⟩
theorem wm_573 : (Jvm.Cond.methodLink "SheGoesOut" (116 : Nat) ({ cls := "SheGoesOut$Land", name := "isBarred", desc := "(I)Z" } : Jvm.MethodName)) ∈ gw := gw_at 573 (by decide +kernel) (by decide +kernel)
theorem wm_574 : (Jvm.Cond.instanceMethod ({ cls := "SheGoesOut$Land", name := "isBarred", desc := "(I)Z" } : Jvm.MethodName)) ∈ gw := gw_at 574 (by decide +kernel) (by decide +kernel)
theorem wm_575 : (Jvm.Cond.selects "SheGoesOut$Land" ({ cls := "SheGoesOut$Land", name := "isBarred", desc := "(I)Z" } : Jvm.MethodName) ({ cls := "SheGoesOut$Land", name := "isBarred", desc := "(I)Z" } : Jvm.MethodName)) ∈ gw := gw_at 575 (by decide +kernel) (by decide +kernel)
theorem wm_576 : (Jvm.Cond.code ({ cls := "SheGoesOut$Land", name := "isBarred", desc := "(I)Z" } : Jvm.MethodName) prog_5_method_5_code (2 : Nat) (Option.some Jvm.ClassFile.FieldType.boolean)) ∈ gw := gw_at 576 (by decide +kernel) (by decide +kernel)
theorem cv_RX11_116 : gcv RX11 116 yX3_isBarred cX3_isBarred 2 (some .boolean) 1 3 := ⟨⟨wm_573, wm_574, wm_575, wm_49, wm_576⟩, ⟨by decide, by decide, by decide +kernel⟩, ⟨_, rfl, rfl⟩⟩
theorem wm_96 : (Jvm.Cond.fieldLink "SheGoesOut$Land" (18 : Nat) "SheGoesOut$Land" "searched" "[I") ∈ gw := gw_at 96 (by decide +kernel) (by decide +kernel)
theorem fk_RX3_18 : gfk RX3 18 3 2 := ⟨RX3, TX3, 3, rfl, inW_X3, by decide, wm_96⟩
theorem wm_581 : (Jvm.Cond.methodLink "SheGoesOut$Land" (27 : Nat) ({ cls := "java/util/Arrays", name := "fill", desc := "([II)V" } : Jvm.MethodName)) ∈ gw := gw_at 581 (by decide +kernel) (by decide +kernel)
theorem wm_582 : (Jvm.Cond.static ({ cls := "java/util/Arrays", name := "fill", desc := "([II)V" } : Jvm.MethodName)) ∈ gw := gw_at 582 (by decide +kernel) (by decide +kernel)
theorem wm_66 : (Jvm.Cond.initialized "java/util/Arrays") ∈ gw := gw_at 66 (by decide +kernel) (by decide +kernel)
theorem wm_583 : (Jvm.Cond.code ({ cls := "java/util/Arrays", name := "fill", desc := "([II)V" } : Jvm.MethodName) prog_22_method_103_code (4 : Nat) (Option.none : Option Jvm.ClassFile.FieldType)) ∈ gw := gw_at 583 (by decide +kernel) (by decide +kernel)
theorem cs_RX3_27 : gcs RX3 27 yJ7_fill_53178 cJ7_fill_53178 4 none 2 := ⟨⟨wm_581, wm_582, wm_66, wm_583⟩, by decide, by decide, by decide +kernel⟩
theorem wm_577 : (Jvm.Cond.methodLink "SheGoesOut" (119 : Nat) ({ cls := "SheGoesOut$Land", name := "forgetSearches", desc := "()V" } : Jvm.MethodName)) ∈ gw := gw_at 577 (by decide +kernel) (by decide +kernel)
theorem wm_578 : (Jvm.Cond.instanceMethod ({ cls := "SheGoesOut$Land", name := "forgetSearches", desc := "()V" } : Jvm.MethodName)) ∈ gw := gw_at 578 (by decide +kernel) (by decide +kernel)
theorem wm_579 : (Jvm.Cond.selects "SheGoesOut$Land" ({ cls := "SheGoesOut$Land", name := "forgetSearches", desc := "()V" } : Jvm.MethodName) ({ cls := "SheGoesOut$Land", name := "forgetSearches", desc := "()V" } : Jvm.MethodName)) ∈ gw := gw_at 579 (by decide +kernel) (by decide +kernel)
theorem wm_580 : (Jvm.Cond.code ({ cls := "SheGoesOut$Land", name := "forgetSearches", desc := "()V" } : Jvm.MethodName) prog_5_method_4_code (1 : Nat) (Option.none : Option Jvm.ClassFile.FieldType)) ∈ gw := gw_at 580 (by decide +kernel) (by decide +kernel)
theorem cv_RX11_119 : gcv RX11 119 yX3_forgetSearches cX3_forgetSearches 1 none 0 3 := ⟨⟨wm_577, wm_578, wm_579, wm_49, wm_580⟩, ⟨by decide, by decide, by decide +kernel⟩, ⟨_, rfl, rfl⟩⟩
theorem wm_271 : (Jvm.Cond.fieldLink "SheGoesOut" (122 : Nat) "SheGoesOut$State" "night" "LSheGoesOut$Night;") ∈ gw := gw_at 271 (by decide +kernel) (by decide +kernel)
theorem fk_RX11_122 : gfk RX11 122 8 2 := ⟨RX8, TX8, 7, rfl, inW_X8, by decide, wm_271⟩
theorem inW_X6 : ∀ w ∈ u_ws RX6 TX6 5, w ∈ gw := gw_ps _ [141, 143, 145, 147, 149] (by decide +kernel) (by decide +kernel)
theorem wm_130 : (Jvm.Cond.fieldLink "SheGoesOut$Night" (9 : Nat) "SheGoesOut$Night" "going" "[J") ∈ gw := gw_at 130 (by decide +kernel) (by decide +kernel)
theorem fk_RX6_9 : gfk RX6 9 6 0 := ⟨RX6, TX6, 5, rfl, inW_X6, by decide, wm_130⟩
theorem clC_9 : shC[9]? = some (.inl (6, [12, 13, 14, 15, 0])) := rfl
theorem clC_10 : shC[10]? = some (.inr (1, 576)) := rfl
theorem wm_588 : (Jvm.Cond.methodLink "SheGoesOut$Night" (35 : Nat) ({ cls := "java/util/Arrays", name := "fill", desc := "([JJ)V" } : Jvm.MethodName)) ∈ gw := gw_at 588 (by decide +kernel) (by decide +kernel)
theorem wm_589 : (Jvm.Cond.static ({ cls := "java/util/Arrays", name := "fill", desc := "([JJ)V" } : Jvm.MethodName)) ∈ gw := gw_at 589 (by decide +kernel) (by decide +kernel)
theorem wm_590 : (Jvm.Cond.code ({ cls := "java/util/Arrays", name := "fill", desc := "([JJ)V" } : Jvm.MethodName) prog_22_method_101_code (5 : Nat) (Option.none : Option Jvm.ClassFile.FieldType)) ∈ gw := gw_at 590 (by decide +kernel) (by decide +kernel)
theorem cs_RX6_35 : gcs RX6 35 yJ7_fill_d0a16 cJ7_fill_d0a16 5 none 2 := ⟨⟨wm_588, wm_589, wm_66, wm_590⟩, by decide, by decide, by decide +kernel⟩
theorem wm_132 : (Jvm.Cond.fieldLink "SheGoesOut$Night" (15 : Nat) "SheGoesOut$Night" "sitting" "[J") ∈ gw := gw_at 132 (by decide +kernel) (by decide +kernel)
theorem fk_RX6_15 : gfk RX6 15 6 1 := ⟨RX6, TX6, 5, rfl, inW_X6, by decide, wm_132⟩
theorem clC_11 : shC[11]? = some (.inr (1, 144)) := rfl
theorem wm_591 : (Jvm.Cond.constantLong "SheGoesOut$Night" (41 : Nat) (1099511627776 : Int64)) ∈ gw := gw_at 591 (by decide +kernel) (by decide +kernel)
theorem wm_136 : (Jvm.Cond.fieldLink "SheGoesOut$Night" (25 : Nat) "SheGoesOut$Night" "minute" "I") ∈ gw := gw_at 136 (by decide +kernel) (by decide +kernel)
theorem fp_RX6_25 : gfp RX6 25 6 4 .int := ⟨RX6, TX6, 5, tyX6, rfl, inW_X6, by decide, wm_136, tyX6_ok, nmX6, rfl, rfl⟩
theorem wm_584 : (Jvm.Cond.methodLink "SheGoesOut" (126 : Nat) ({ cls := "SheGoesOut$Night", name := "setOut", desc := "(II)V" } : Jvm.MethodName)) ∈ gw := gw_at 584 (by decide +kernel) (by decide +kernel)
theorem wm_585 : (Jvm.Cond.instanceMethod ({ cls := "SheGoesOut$Night", name := "setOut", desc := "(II)V" } : Jvm.MethodName)) ∈ gw := gw_at 585 (by decide +kernel) (by decide +kernel)
theorem wm_586 : (Jvm.Cond.selects "SheGoesOut$Night" ({ cls := "SheGoesOut$Night", name := "setOut", desc := "(II)V" } : Jvm.MethodName) ({ cls := "SheGoesOut$Night", name := "setOut", desc := "(II)V" } : Jvm.MethodName)) ∈ gw := gw_at 586 (by decide +kernel) (by decide +kernel)
theorem wm_51 : (Jvm.Cond.initialized "SheGoesOut$Night") ∈ gw := gw_at 51 (by decide +kernel) (by decide +kernel)
theorem wm_587 : (Jvm.Cond.code ({ cls := "SheGoesOut$Night", name := "setOut", desc := "(II)V" } : Jvm.MethodName) prog_8_method_4_code (3 : Nat) (Option.none : Option Jvm.ClassFile.FieldType)) ∈ gw := gw_at 587 (by decide +kernel) (by decide +kernel)
theorem cv_RX11_126 : gcv RX11 126 yX6_setOut cX6_setOut 3 none 2 6 := ⟨⟨wm_584, wm_585, wm_586, wm_51, wm_587⟩, ⟨by decide, by decide, by decide +kernel⟩, ⟨_, rfl, rfl⟩⟩
theorem kb_m2 : (Int8.ofInt (-2)).toInt32 = (-2 : Int32) := by decide
theorem wm_140 : (Jvm.Cond.fieldLink "SheGoesOut" (136 : Nat) "SheGoesOut$Night" "minute" "I") ∈ gw := gw_at 140 (by decide +kernel) (by decide +kernel)
theorem fk_RX11_136 : gfk RX11 136 6 4 := ⟨RX6, TX6, 5, rfl, inW_X6, by decide, wm_140⟩
theorem wm_134 : (Jvm.Cond.fieldLink "SheGoesOut$Night" (18 : Nat) "SheGoesOut$Night" "coming" "[J") ∈ gw := gw_at 134 (by decide +kernel) (by decide +kernel)
theorem fk_RX6_18 : gfk RX6 18 6 2 := ⟨RX6, TX6, 5, rfl, inW_X6, by decide, wm_134⟩
theorem ks_576 : (Int16.ofInt (576)).toInt32 = (576 : Int32) := by decide
theorem wm_650 : (Jvm.Cond.methodLink "SheGoesOut$Night" (29 : Nat) ({ cls := "java/lang/System", name := "arraycopy", desc := "(Ljava/lang/Object;ILjava/lang/Object;II)V" } : Jvm.MethodName)) ∈ gw := gw_at 650 (by decide +kernel) (by decide +kernel)
theorem wm_652 : (Jvm.Cond.native ({ cls := "java/lang/System", name := "arraycopy", desc := "(Ljava/lang/Object;ILjava/lang/Object;II)V" } : Jvm.MethodName)) ∈ gw := gw_at 652 (by decide +kernel) (by decide +kernel)
theorem wm_651 : (Jvm.Cond.static ({ cls := "java/lang/System", name := "arraycopy", desc := "(Ljava/lang/Object;ILjava/lang/Object;II)V" } : Jvm.MethodName)) ∈ gw := gw_at 651 (by decide +kernel) (by decide +kernel)
theorem wm_67 : (Jvm.Cond.initialized "java/lang/System") ∈ gw := gw_at 67 (by decide +kernel) (by decide +kernel)
theorem clC_12 : shC[12]? = some (.inr (1, 576)) := rfl
theorem fk_RX6_25 : gfk RX6 25 6 4 := ⟨RX6, TX6, 5, rfl, inW_X6, by decide, wm_136⟩
theorem wm_604 : (Jvm.Cond.methodLink "SheGoesOut$Night" (43 : Nat) ({ cls := "SheGoesOut$Night", name := "together", desc := "(I)J" } : Jvm.MethodName)) ∈ gw := gw_at 604 (by decide +kernel) (by decide +kernel)
theorem wm_605 : (Jvm.Cond.instanceMethod ({ cls := "SheGoesOut$Night", name := "together", desc := "(I)J" } : Jvm.MethodName)) ∈ gw := gw_at 605 (by decide +kernel) (by decide +kernel)
theorem wm_606 : (Jvm.Cond.selects "SheGoesOut$Night" ({ cls := "SheGoesOut$Night", name := "together", desc := "(I)J" } : Jvm.MethodName) ({ cls := "SheGoesOut$Night", name := "together", desc := "(I)J" } : Jvm.MethodName)) ∈ gw := gw_at 606 (by decide +kernel) (by decide +kernel)
theorem wm_607 : (Jvm.Cond.code ({ cls := "SheGoesOut$Night", name := "together", desc := "(I)J" } : Jvm.MethodName) prog_8_method_5_code (5 : Nat) (Option.some Jvm.ClassFile.FieldType.long)) ∈ gw := gw_at 607 (by decide +kernel) (by decide +kernel)
theorem cv_RX6_43 : gcv RX6 43 yX6_together cX6_together 5 (some .long) 1 6 := ⟨⟨wm_604, wm_605, wm_606, wm_51, wm_607⟩, ⟨by decide, by decide, by decide +kernel⟩, ⟨_, rfl, rfl⟩⟩
theorem wm_115 : (Jvm.Cond.fieldLink "SheGoesOut$Night" (88 : Nat) "SheGoesOut$Law" "settings" "[I") ∈ gw := gw_at 115 (by decide +kernel) (by decide +kernel)
theorem fk_RX6_88 : gfk RX6 88 4 0 := ⟨RX4, TX4, 2, rfl, inW_X4, by decide, wm_115⟩
theorem wm_135 : (Jvm.Cond.fieldLink "SheGoesOut$Night" (21 : Nat) "SheGoesOut$Night" "lures" "[I") ∈ gw := gw_at 135 (by decide +kernel) (by decide +kernel)
theorem fk_RX6_21 : gfk RX6 21 6 3 := ⟨RX6, TX6, 5, rfl, inW_X6, by decide, wm_135⟩
theorem wm_636 : (Jvm.Cond.fieldLink "SheGoesOut$Night" (91 : Nat) "SheGoesOut$Night" "TURNS" "[I") ∈ gw := gw_at 636 (by decide +kernel) (by decide +kernel)
theorem clC_13 : shC[13]? = some (.inr (0, 4)) := rfl
theorem wm_632 : (Jvm.Cond.methodLink "SheGoesOut$Night" (72 : Nat) ({ cls := "SheGoesOut$Night", name := "pulls", desc := "(LSheGoesOut$Law;I)I" } : Jvm.MethodName)) ∈ gw := gw_at 632 (by decide +kernel) (by decide +kernel)
theorem wm_634 : (Jvm.Cond.instanceMethod ({ cls := "SheGoesOut$Night", name := "pulls", desc := "(LSheGoesOut$Law;I)I" } : Jvm.MethodName)) ∈ gw := gw_at 634 (by decide +kernel) (by decide +kernel)
theorem wm_8 : (Jvm.Cond.selects "SheGoesOut$Night" ({ cls := "SheGoesOut$Night", name := "pulls", desc := "(LSheGoesOut$Law;I)I" } : Jvm.MethodName) ({ cls := "SheGoesOut$Night", name := "pulls", desc := "(LSheGoesOut$Law;I)I" } : Jvm.MethodName)) ∈ gw := gw_at 8 (by decide +kernel) (by decide +kernel)
theorem wm_635 : (Jvm.Cond.code ({ cls := "SheGoesOut$Night", name := "pulls", desc := "(LSheGoesOut$Law;I)I" } : Jvm.MethodName) prog_8_method_11_code (5 : Nat) (Option.some Jvm.ClassFile.FieldType.int)) ∈ gw := gw_at 635 (by decide +kernel) (by decide +kernel)
theorem cv_RX6_72 : gcv RX6 72 yX6_pulls cX6_pulls 5 (some .int) 2 6 := ⟨⟨wm_632, wm_634, wm_8, wm_51, wm_635⟩, ⟨by decide, by decide, by decide +kernel⟩, ⟨_, rfl, rfl⟩⟩
theorem ks_132 : (Int16.ofInt (132)).toInt32 = (132 : Int32) := by decide
theorem wm_642 : (Jvm.Cond.methodLink "SheGoesOut$Night" (94 : Nat) ({ cls := "SheGoesOut$Land", name := "beside", desc := "(II)I" } : Jvm.MethodName)) ∈ gw := gw_at 642 (by decide +kernel) (by decide +kernel)
theorem wm_617 : (Jvm.Cond.static ({ cls := "SheGoesOut$Land", name := "beside", desc := "(II)I" } : Jvm.MethodName)) ∈ gw := gw_at 617 (by decide +kernel) (by decide +kernel)
theorem wm_618 : (Jvm.Cond.code ({ cls := "SheGoesOut$Land", name := "beside", desc := "(II)I" } : Jvm.MethodName) prog_5_method_10_code (2 : Nat) (Option.some Jvm.ClassFile.FieldType.int)) ∈ gw := gw_at 618 (by decide +kernel) (by decide +kernel)
theorem cs_RX6_94 : gcs RX6 94 yX3_beside cX3_beside 2 (some .int) 2 := ⟨⟨wm_642, wm_617, wm_49, wm_618⟩, by decide, by decide, by decide +kernel⟩
theorem wm_643 : (Jvm.Cond.methodLink "SheGoesOut$Night" (80 : Nat) ({ cls := "SheGoesOut$Night", name := "portion", desc := "(JJJ)J" } : Jvm.MethodName)) ∈ gw := gw_at 643 (by decide +kernel) (by decide +kernel)
theorem wm_644 : (Jvm.Cond.static ({ cls := "SheGoesOut$Night", name := "portion", desc := "(JJJ)J" } : Jvm.MethodName)) ∈ gw := gw_at 644 (by decide +kernel) (by decide +kernel)
theorem wm_645 : (Jvm.Cond.code ({ cls := "SheGoesOut$Night", name := "portion", desc := "(JJJ)J" } : Jvm.MethodName) prog_8_method_10_code (6 : Nat) (Option.some Jvm.ClassFile.FieldType.long)) ∈ gw := gw_at 645 (by decide +kernel) (by decide +kernel)
theorem cs_RX6_80 : gcs RX6 80 yX6_portion cX6_portion 6 (some .long) 3 := ⟨⟨wm_643, wm_644, wm_51, wm_645⟩, by decide, by decide, by decide +kernel⟩
theorem wm_646 : (Jvm.Cond.methodLink "SheGoesOut$Night" (84 : Nat) ({ cls := "SheGoesOut$Night", name := "arrive", desc := "(IIJ)J" } : Jvm.MethodName)) ∈ gw := gw_at 646 (by decide +kernel) (by decide +kernel)
theorem wm_648 : (Jvm.Cond.instanceMethod ({ cls := "SheGoesOut$Night", name := "arrive", desc := "(IIJ)J" } : Jvm.MethodName)) ∈ gw := gw_at 648 (by decide +kernel) (by decide +kernel)
theorem wm_10 : (Jvm.Cond.selects "SheGoesOut$Night" ({ cls := "SheGoesOut$Night", name := "arrive", desc := "(IIJ)J" } : Jvm.MethodName) ({ cls := "SheGoesOut$Night", name := "arrive", desc := "(IIJ)J" } : Jvm.MethodName)) ∈ gw := gw_at 10 (by decide +kernel) (by decide +kernel)
theorem wm_649 : (Jvm.Cond.code ({ cls := "SheGoesOut$Night", name := "arrive", desc := "(IIJ)J" } : Jvm.MethodName) prog_8_method_13_code (5 : Nat) (Option.some Jvm.ClassFile.FieldType.long)) ∈ gw := gw_at 649 (by decide +kernel) (by decide +kernel)
theorem cv_RX6_84 : gcv RX6 84 yX6_arrive cX6_arrive 5 (some .long) 3 6 := ⟨⟨wm_646, wm_648, wm_10, wm_51, wm_649⟩, ⟨by decide, by decide, by decide +kernel⟩, ⟨_, rfl, rfl⟩⟩
theorem wm_638 : (Jvm.Cond.methodLink "SheGoesOut$Night" (76 : Nat) ({ cls := "SheGoesOut$Night", name := "turn", desc := "(LSheGoesOut$Law;IIJ)J" } : Jvm.MethodName)) ∈ gw := gw_at 638 (by decide +kernel) (by decide +kernel)
theorem wm_640 : (Jvm.Cond.instanceMethod ({ cls := "SheGoesOut$Night", name := "turn", desc := "(LSheGoesOut$Law;IIJ)J" } : Jvm.MethodName)) ∈ gw := gw_at 640 (by decide +kernel) (by decide +kernel)
theorem wm_9 : (Jvm.Cond.selects "SheGoesOut$Night" ({ cls := "SheGoesOut$Night", name := "turn", desc := "(LSheGoesOut$Law;IIJ)J" } : Jvm.MethodName) ({ cls := "SheGoesOut$Night", name := "turn", desc := "(LSheGoesOut$Law;IIJ)J" } : Jvm.MethodName)) ∈ gw := gw_at 9 (by decide +kernel) (by decide +kernel)
theorem wm_641 : (Jvm.Cond.code ({ cls := "SheGoesOut$Night", name := "turn", desc := "(LSheGoesOut$Law;IIJ)J" } : Jvm.MethodName) prog_8_method_12_code (14 : Nat) (Option.some Jvm.ClassFile.FieldType.long)) ∈ gw := gw_at 641 (by decide +kernel) (by decide +kernel)
theorem cv_RX6_76 : gcv RX6 76 yX6_turn cX6_turn 14 (some .long) 4 6 := ⟨⟨wm_638, wm_640, wm_9, wm_51, wm_641⟩, ⟨by decide, by decide, by decide +kernel⟩, ⟨_, rfl, rfl⟩⟩
theorem wm_93 : (Jvm.Cond.fieldLink "SheGoesOut$Night" (57 : Nat) "SheGoesOut$Land" "kinds" "[I") ∈ gw := gw_at 93 (by decide +kernel) (by decide +kernel)
theorem fk_RX6_57 : gfk RX6 57 3 0 := ⟨RX3, TX3, 3, rfl, inW_X3, by decide, wm_93⟩
theorem wm_117 : (Jvm.Cond.fieldLink "SheGoesOut$Law" (15 : Nat) "SheGoesOut$Law" "sits" "[I") ∈ gw := gw_at 117 (by decide +kernel) (by decide +kernel)
theorem fk_RX4_15 : gfk RX4 15 4 1 := ⟨RX4, TX4, 2, rfl, inW_X4, by decide, wm_117⟩
theorem kb_120 : (Int8.ofInt (120)).toInt32 = (120 : Int32) := by decide
theorem wm_113 : (Jvm.Cond.fieldLink "SheGoesOut$Law" (9 : Nat) "SheGoesOut$Law" "settings" "[I") ∈ gw := gw_at 113 (by decide +kernel) (by decide +kernel)
theorem fk_RX4_9 : gfk RX4 9 4 0 := ⟨RX4, TX4, 2, rfl, inW_X4, by decide, wm_113⟩
theorem wm_620 : (Jvm.Cond.methodLink "SheGoesOut$Night" (60 : Nat) ({ cls := "SheGoesOut$Law", name := "sitDown", desc := "(II)I" } : Jvm.MethodName)) ∈ gw := gw_at 620 (by decide +kernel) (by decide +kernel)
theorem wm_621 : (Jvm.Cond.instanceMethod ({ cls := "SheGoesOut$Law", name := "sitDown", desc := "(II)I" } : Jvm.MethodName)) ∈ gw := gw_at 621 (by decide +kernel) (by decide +kernel)
theorem wm_622 : (Jvm.Cond.selects "SheGoesOut$Law" ({ cls := "SheGoesOut$Law", name := "sitDown", desc := "(II)I" } : Jvm.MethodName) ({ cls := "SheGoesOut$Law", name := "sitDown", desc := "(II)I" } : Jvm.MethodName)) ∈ gw := gw_at 622 (by decide +kernel) (by decide +kernel)
theorem wm_623 : (Jvm.Cond.code ({ cls := "SheGoesOut$Law", name := "sitDown", desc := "(II)I" } : Jvm.MethodName) prog_6_method_4_code (3 : Nat) (Option.some Jvm.ClassFile.FieldType.int)) ∈ gw := gw_at 623 (by decide +kernel) (by decide +kernel)
theorem cv_RX6_60 : gcv RX6 60 yX4_sitDown cX4_sitDown 3 (some .int) 2 4 := ⟨⟨wm_620, wm_621, wm_622, wm_50, wm_623⟩, ⟨by decide, by decide, by decide +kernel⟩, ⟨_, rfl, rfl⟩⟩
theorem kb_15 : (Int8.ofInt (15)).toInt32 = (15 : Int32) := by decide
theorem ki_5 : Int32.ofInt (5) = (5 : Int32) := by decide
theorem wm_624 : (Jvm.Cond.methodLink "SheGoesOut$Night" (65 : Nat) ({ cls := "SheGoesOut$Law", name := "rideOn", desc := "(II)I" } : Jvm.MethodName)) ∈ gw := gw_at 624 (by decide +kernel) (by decide +kernel)
theorem wm_625 : (Jvm.Cond.instanceMethod ({ cls := "SheGoesOut$Law", name := "rideOn", desc := "(II)I" } : Jvm.MethodName)) ∈ gw := gw_at 625 (by decide +kernel) (by decide +kernel)
theorem wm_626 : (Jvm.Cond.selects "SheGoesOut$Law" ({ cls := "SheGoesOut$Law", name := "rideOn", desc := "(II)I" } : Jvm.MethodName) ({ cls := "SheGoesOut$Law", name := "rideOn", desc := "(II)I" } : Jvm.MethodName)) ∈ gw := gw_at 626 (by decide +kernel) (by decide +kernel)
theorem wm_627 : (Jvm.Cond.code ({ cls := "SheGoesOut$Law", name := "rideOn", desc := "(II)I" } : Jvm.MethodName) prog_6_method_5_code (3 : Nat) (Option.some Jvm.ClassFile.FieldType.int)) ∈ gw := gw_at 627 (by decide +kernel) (by decide +kernel)
theorem cv_RX6_65 : gcv RX6 65 yX4_rideOn cX4_rideOn 3 (some .int) 2 4 := ⟨⟨wm_624, wm_625, wm_626, wm_50, wm_627⟩, ⟨by decide, by decide, by decide +kernel⟩, ⟨_, rfl, rfl⟩⟩
theorem wm_628 : (Jvm.Cond.methodLink "SheGoesOut$Night" (68 : Nat) ({ cls := "SheGoesOut$Land", name := "nextStop", desc := "(I)I" } : Jvm.MethodName)) ∈ gw := gw_at 628 (by decide +kernel) (by decide +kernel)
theorem wm_629 : (Jvm.Cond.instanceMethod ({ cls := "SheGoesOut$Land", name := "nextStop", desc := "(I)I" } : Jvm.MethodName)) ∈ gw := gw_at 629 (by decide +kernel) (by decide +kernel)
theorem wm_630 : (Jvm.Cond.selects "SheGoesOut$Land" ({ cls := "SheGoesOut$Land", name := "nextStop", desc := "(I)I" } : Jvm.MethodName) ({ cls := "SheGoesOut$Land", name := "nextStop", desc := "(I)I" } : Jvm.MethodName)) ∈ gw := gw_at 630 (by decide +kernel) (by decide +kernel)
theorem wm_631 : (Jvm.Cond.code ({ cls := "SheGoesOut$Land", name := "nextStop", desc := "(I)I" } : Jvm.MethodName) prog_5_method_9_code (4 : Nat) (Option.some Jvm.ClassFile.FieldType.int)) ∈ gw := gw_at 631 (by decide +kernel) (by decide +kernel)
theorem cv_RX6_68 : gcv RX6 68 yX3_nextStop cX3_nextStop 4 (some .int) 1 3 := ⟨⟨wm_628, wm_629, wm_630, wm_49, wm_631⟩, ⟨by decide, by decide, by decide +kernel⟩, ⟨_, rfl, rfl⟩⟩
theorem wm_616 : (Jvm.Cond.methodLink "SheGoesOut$Land" (33 : Nat) ({ cls := "SheGoesOut$Land", name := "beside", desc := "(II)I" } : Jvm.MethodName)) ∈ gw := gw_at 616 (by decide +kernel) (by decide +kernel)
theorem cs_RX3_33 : gcs RX3 33 yX3_beside cX3_beside 2 (some .int) 2 := ⟨⟨wm_616, wm_617, wm_49, wm_618⟩, by decide, by decide, by decide +kernel⟩
theorem wm_619 : (Jvm.Cond.methodLink "SheGoesOut$Land" (37 : Nat) ({ cls := "SheGoesOut$Land", name := "isBarred", desc := "(I)Z" } : Jvm.MethodName)) ∈ gw := gw_at 619 (by decide +kernel) (by decide +kernel)
theorem cv_RX3_37 : gcv RX3 37 yX3_isBarred cX3_isBarred 2 (some .boolean) 1 3 := ⟨⟨wm_619, wm_574, wm_575, wm_49, wm_576⟩, ⟨by decide, by decide, by decide +kernel⟩, ⟨_, rfl, rfl⟩⟩
theorem wm_612 : (Jvm.Cond.methodLink "SheGoesOut$Night" (51 : Nat) ({ cls := "SheGoesOut$Land", name := "lure", desc := "(II)I" } : Jvm.MethodName)) ∈ gw := gw_at 612 (by decide +kernel) (by decide +kernel)
theorem wm_613 : (Jvm.Cond.instanceMethod ({ cls := "SheGoesOut$Land", name := "lure", desc := "(II)I" } : Jvm.MethodName)) ∈ gw := gw_at 613 (by decide +kernel) (by decide +kernel)
theorem wm_614 : (Jvm.Cond.selects "SheGoesOut$Land" ({ cls := "SheGoesOut$Land", name := "lure", desc := "(II)I" } : Jvm.MethodName) ({ cls := "SheGoesOut$Land", name := "lure", desc := "(II)I" } : Jvm.MethodName)) ∈ gw := gw_at 614 (by decide +kernel) (by decide +kernel)
theorem wm_615 : (Jvm.Cond.code ({ cls := "SheGoesOut$Land", name := "lure", desc := "(II)I" } : Jvm.MethodName) prog_5_method_8_code (4 : Nat) (Option.some Jvm.ClassFile.FieldType.int)) ∈ gw := gw_at 615 (by decide +kernel) (by decide +kernel)
theorem cv_RX6_51 : gcv RX6 51 yX3_lure cX3_lure 4 (some .int) 2 3 := ⟨⟨wm_612, wm_613, wm_614, wm_49, wm_615⟩, ⟨by decide, by decide, by decide +kernel⟩, ⟨_, rfl, rfl⟩⟩
theorem wm_608 : (Jvm.Cond.methodLink "SheGoesOut$Night" (47 : Nat) ({ cls := "SheGoesOut$Night", name := "leave", desc := "(LSheGoesOut$Land;LSheGoesOut$Law;I)V" } : Jvm.MethodName)) ∈ gw := gw_at 608 (by decide +kernel) (by decide +kernel)
theorem wm_610 : (Jvm.Cond.instanceMethod ({ cls := "SheGoesOut$Night", name := "leave", desc := "(LSheGoesOut$Land;LSheGoesOut$Law;I)V" } : Jvm.MethodName)) ∈ gw := gw_at 610 (by decide +kernel) (by decide +kernel)
theorem wm_7 : (Jvm.Cond.selects "SheGoesOut$Night" ({ cls := "SheGoesOut$Night", name := "leave", desc := "(LSheGoesOut$Land;LSheGoesOut$Law;I)V" } : Jvm.MethodName) ({ cls := "SheGoesOut$Night", name := "leave", desc := "(LSheGoesOut$Land;LSheGoesOut$Law;I)V" } : Jvm.MethodName)) ∈ gw := gw_at 7 (by decide +kernel) (by decide +kernel)
theorem wm_611 : (Jvm.Cond.code ({ cls := "SheGoesOut$Night", name := "leave", desc := "(LSheGoesOut$Land;LSheGoesOut$Law;I)V" } : Jvm.MethodName) prog_8_method_9_code (14 : Nat) (Option.none : Option Jvm.ClassFile.FieldType)) ∈ gw := gw_at 611 (by decide +kernel) (by decide +kernel)
theorem cv_RX6_47 : gcv RX6 47 yX6_leave cX6_leave 14 none 3 6 := ⟨⟨wm_608, wm_610, wm_7, wm_51, wm_611⟩, ⟨by decide, by decide, by decide +kernel⟩, ⟨_, rfl, rfl⟩⟩
theorem wm_600 : (Jvm.Cond.methodLink "SheGoesOut" (140 : Nat) ({ cls := "SheGoesOut$Night", name := "pass", desc := "(LSheGoesOut$Land;LSheGoesOut$Law;)V" } : Jvm.MethodName)) ∈ gw := gw_at 600 (by decide +kernel) (by decide +kernel)
theorem wm_601 : (Jvm.Cond.instanceMethod ({ cls := "SheGoesOut$Night", name := "pass", desc := "(LSheGoesOut$Land;LSheGoesOut$Law;)V" } : Jvm.MethodName)) ∈ gw := gw_at 601 (by decide +kernel) (by decide +kernel)
theorem wm_602 : (Jvm.Cond.selects "SheGoesOut$Night" ({ cls := "SheGoesOut$Night", name := "pass", desc := "(LSheGoesOut$Land;LSheGoesOut$Law;)V" } : Jvm.MethodName) ({ cls := "SheGoesOut$Night", name := "pass", desc := "(LSheGoesOut$Land;LSheGoesOut$Law;)V" } : Jvm.MethodName)) ∈ gw := gw_at 602 (by decide +kernel) (by decide +kernel)
theorem wm_603 : (Jvm.Cond.code ({ cls := "SheGoesOut$Night", name := "pass", desc := "(LSheGoesOut$Land;LSheGoesOut$Law;)V" } : Jvm.MethodName) prog_8_method_8_code (4 : Nat) (Option.none : Option Jvm.ClassFile.FieldType)) ∈ gw := gw_at 603 (by decide +kernel) (by decide +kernel)
theorem cv_RX11_140 : gcv RX11 140 yX6_pass cX6_pass 4 none 2 6 := ⟨⟨wm_600, wm_601, wm_602, wm_51, wm_603⟩, ⟨by decide, by decide, by decide +kernel⟩, ⟨_, rfl, rfl⟩⟩
theorem kb_60 : (Int8.ofInt (60)).toInt32 = (60 : Int32) := by decide
theorem wm_596 : (Jvm.Cond.methodLink "SheGoesOut" (132 : Nat) ({ cls := "SheGoesOut$Night", name := "isOut", desc := "()Z" } : Jvm.MethodName)) ∈ gw := gw_at 596 (by decide +kernel) (by decide +kernel)
theorem wm_597 : (Jvm.Cond.instanceMethod ({ cls := "SheGoesOut$Night", name := "isOut", desc := "()Z" } : Jvm.MethodName)) ∈ gw := gw_at 597 (by decide +kernel) (by decide +kernel)
theorem wm_598 : (Jvm.Cond.selects "SheGoesOut$Night" ({ cls := "SheGoesOut$Night", name := "isOut", desc := "()Z" } : Jvm.MethodName) ({ cls := "SheGoesOut$Night", name := "isOut", desc := "()Z" } : Jvm.MethodName)) ∈ gw := gw_at 598 (by decide +kernel) (by decide +kernel)
theorem wm_599 : (Jvm.Cond.code ({ cls := "SheGoesOut$Night", name := "isOut", desc := "()Z" } : Jvm.MethodName) prog_8_method_3_code (1 : Nat) (Option.some Jvm.ClassFile.FieldType.boolean)) ∈ gw := gw_at 599 (by decide +kernel) (by decide +kernel)
theorem cv_RX11_132 : gcv RX11 132 yX6_isOut cX6_isOut 1 (some .boolean) 0 6 := ⟨⟨wm_596, wm_597, wm_598, wm_51, wm_599⟩, ⟨by decide, by decide, by decide +kernel⟩, ⟨_, rfl, rfl⟩⟩
theorem wm_131 : (Jvm.Cond.fieldLink "SheGoesOut" (144 : Nat) "SheGoesOut$Night" "going" "[J") ∈ gw := gw_at 131 (by decide +kernel) (by decide +kernel)
theorem fk_RX11_144 : gfk RX11 144 6 0 := ⟨RX6, TX6, 5, rfl, inW_X6, by decide, wm_131⟩
theorem wm_133 : (Jvm.Cond.fieldLink "SheGoesOut" (148 : Nat) "SheGoesOut$Night" "sitting" "[J") ∈ gw := gw_at 133 (by decide +kernel) (by decide +kernel)
theorem fk_RX11_148 : gfk RX11 148 6 1 := ⟨RX6, TX6, 5, rfl, inW_X6, by decide, wm_133⟩
theorem wm_657 : (Jvm.Cond.methodLink "SheGoesOut" (151 : Nat) ({ cls := "SheGoesOut$Night", name := "together", desc := "(I)J" } : Jvm.MethodName)) ∈ gw := gw_at 657 (by decide +kernel) (by decide +kernel)
theorem cv_RX11_151 : gcv RX11 151 yX6_together cX6_together 5 (some .long) 1 6 := ⟨⟨wm_657, wm_605, wm_606, wm_51, wm_607⟩, ⟨by decide, by decide, by decide +kernel⟩, ⟨_, rfl, rfl⟩⟩
theorem wm_662 : (Jvm.Cond.methodLink "SheGoesOut" (155 : Nat) ({ cls := "SheGoesOut", name := "isPart", desc := "(I)Z" } : Jvm.MethodName)) ∈ gw := gw_at 662 (by decide +kernel) (by decide +kernel)
theorem wm_663 : (Jvm.Cond.static ({ cls := "SheGoesOut", name := "isPart", desc := "(I)Z" } : Jvm.MethodName)) ∈ gw := gw_at 663 (by decide +kernel) (by decide +kernel)
theorem wm_664 : (Jvm.Cond.code ({ cls := "SheGoesOut", name := "isPart", desc := "(I)Z" } : Jvm.MethodName) prog_1_method_50_code (1 : Nat) (Option.some Jvm.ClassFile.FieldType.boolean)) ∈ gw := gw_at 664 (by decide +kernel) (by decide +kernel)
theorem cs_RX11_155 : gcs RX11 155 yX11_isPart cX11_isPart 1 (some .boolean) 1 := ⟨⟨wm_662, wm_663, wm_47, wm_664⟩, by decide, by decide, by decide +kernel⟩
theorem wm_665 : (Jvm.Cond.methodLink "SheGoesOut" (158 : Nat) ({ cls := "SheGoesOut$Night", name := "all", desc := "()J" } : Jvm.MethodName)) ∈ gw := gw_at 665 (by decide +kernel) (by decide +kernel)
theorem wm_666 : (Jvm.Cond.instanceMethod ({ cls := "SheGoesOut$Night", name := "all", desc := "()J" } : Jvm.MethodName)) ∈ gw := gw_at 666 (by decide +kernel) (by decide +kernel)
theorem wm_667 : (Jvm.Cond.selects "SheGoesOut$Night" ({ cls := "SheGoesOut$Night", name := "all", desc := "()J" } : Jvm.MethodName) ({ cls := "SheGoesOut$Night", name := "all", desc := "()J" } : Jvm.MethodName)) ∈ gw := gw_at 667 (by decide +kernel) (by decide +kernel)
theorem wm_668 : (Jvm.Cond.code ({ cls := "SheGoesOut$Night", name := "all", desc := "()J" } : Jvm.MethodName) prog_8_method_6_code (4 : Nat) (Option.some Jvm.ClassFile.FieldType.long)) ∈ gw := gw_at 668 (by decide +kernel) (by decide +kernel)
theorem cv_RX11_158 : gcv RX11 158 yX6_all cX6_all 4 (some .long) 0 6 := ⟨⟨wm_665, wm_666, wm_667, wm_51, wm_668⟩, ⟨by decide, by decide, by decide +kernel⟩, ⟨_, rfl, rfl⟩⟩
theorem ks_1000 : (Int16.ofInt (1000)).toInt32 = (1000 : Int32) := by decide
theorem wm_672 : (Jvm.Cond.methodLink "SheGoesOut" (361 : Nat) ({ cls := "SheGoesOut", name := "commonDivisor", desc := "(JJ)J" } : Jvm.MethodName)) ∈ gw := gw_at 672 (by decide +kernel) (by decide +kernel)
theorem wm_673 : (Jvm.Cond.static ({ cls := "SheGoesOut", name := "commonDivisor", desc := "(JJ)J" } : Jvm.MethodName)) ∈ gw := gw_at 673 (by decide +kernel) (by decide +kernel)
theorem wm_674 : (Jvm.Cond.code ({ cls := "SheGoesOut", name := "commonDivisor", desc := "(JJ)J" } : Jvm.MethodName) prog_1_method_54_code (7 : Nat) (Option.some Jvm.ClassFile.FieldType.long)) ∈ gw := gw_at 674 (by decide +kernel) (by decide +kernel)
theorem cs_RX11_361 : gcs RX11 361 yX11_commonDivisor cX11_commonDivisor 7 (some .long) 2 := ⟨⟨wm_672, wm_673, wm_47, wm_674⟩, by decide, by decide, by decide +kernel⟩
theorem wm_669 : (Jvm.Cond.methodLink "SheGoesOut" (162 : Nat) ({ cls := "SheGoesOut", name := "lowest", desc := "(JJI)J" } : Jvm.MethodName)) ∈ gw := gw_at 669 (by decide +kernel) (by decide +kernel)
theorem wm_670 : (Jvm.Cond.static ({ cls := "SheGoesOut", name := "lowest", desc := "(JJI)J" } : Jvm.MethodName)) ∈ gw := gw_at 670 (by decide +kernel) (by decide +kernel)
theorem wm_671 : (Jvm.Cond.code ({ cls := "SheGoesOut", name := "lowest", desc := "(JJI)J" } : Jvm.MethodName) prog_1_method_53_code (7 : Nat) (Option.some Jvm.ClassFile.FieldType.long)) ∈ gw := gw_at 671 (by decide +kernel) (by decide +kernel)
theorem cs_RX11_162 : gcs RX11 162 yX11_lowest cX11_lowest 7 (some .long) 3 := ⟨⟨wm_669, wm_670, wm_47, wm_671⟩, by decide, by decide, by decide +kernel⟩
theorem wm_679 : (Jvm.Cond.methodLink "SheGoesOut" (166 : Nat) ({ cls := "SheGoesOut$Night", name := "fullest", desc := "(Z)I" } : Jvm.MethodName)) ∈ gw := gw_at 679 (by decide +kernel) (by decide +kernel)
theorem wm_680 : (Jvm.Cond.instanceMethod ({ cls := "SheGoesOut$Night", name := "fullest", desc := "(Z)I" } : Jvm.MethodName)) ∈ gw := gw_at 680 (by decide +kernel) (by decide +kernel)
theorem wm_681 : (Jvm.Cond.selects "SheGoesOut$Night" ({ cls := "SheGoesOut$Night", name := "fullest", desc := "(Z)I" } : Jvm.MethodName) ({ cls := "SheGoesOut$Night", name := "fullest", desc := "(Z)I" } : Jvm.MethodName)) ∈ gw := gw_at 681 (by decide +kernel) (by decide +kernel)
theorem wm_682 : (Jvm.Cond.code ({ cls := "SheGoesOut$Night", name := "fullest", desc := "(Z)I" } : Jvm.MethodName) prog_8_method_7_code (8 : Nat) (Option.some Jvm.ClassFile.FieldType.int)) ∈ gw := gw_at 682 (by decide +kernel) (by decide +kernel)
theorem cv_RX11_166 : gcv RX11 166 yX6_fullest cX6_fullest 8 (some .int) 1 6 := ⟨⟨wm_679, wm_680, wm_681, wm_51, wm_682⟩, ⟨by decide, by decide, by decide +kernel⟩, ⟨_, rfl, rfl⟩⟩
theorem wm_273 : (Jvm.Cond.fieldLink "SheGoesOut" (170 : Nat) "SheGoesOut$State" "teams" "LSheGoesOut$Teams;") ∈ gw := gw_at 273 (by decide +kernel) (by decide +kernel)
theorem fk_RX11_170 : gfk RX11 170 8 3 := ⟨RX8, TX8, 7, rfl, inW_X8, by decide, wm_273⟩
theorem inW_X10 : ∀ w ∈ u_ws RX10 TX10 10, w ∈ gw := gw_ps _ [173, 175, 177, 179, 181, 183, 185, 187, 189, 191] (by decide +kernel) (by decide +kernel)
theorem wm_168 : (Jvm.Cond.fieldLink "SheGoesOut" (174 : Nat) "SheGoesOut$Teams" "count" "I") ∈ gw := gw_at 168 (by decide +kernel) (by decide +kernel)
theorem fk_RX11_174 : gfk RX11 174 10 7 := ⟨RX10, TX10, 10, rfl, inW_X10, by decide, wm_168⟩
theorem clC_14 : shC[14]? = some (.inl (10, [17, 18, 19, 20, 21, 22, 23, 0, 0, 1])) := rfl
theorem wm_170 : (Jvm.Cond.fieldLink "SheGoesOut" (179 : Nat) "SheGoesOut$Teams" "placeCount" "I") ∈ gw := gw_at 170 (by decide +kernel) (by decide +kernel)
theorem fk_RX11_179 : gfk RX11 179 10 8 := ⟨RX10, TX10, 10, rfl, inW_X10, by decide, wm_170⟩
theorem wm_275 : (Jvm.Cond.fieldLink "SheGoesOut" (182 : Nat) "SheGoesOut$State" "jobs" "LSheGoesOut$Jobs;") ∈ gw := gw_at 275 (by decide +kernel) (by decide +kernel)
theorem fk_RX11_182 : gfk RX11 182 8 4 := ⟨RX8, TX8, 7, rfl, inW_X8, by decide, wm_275⟩
theorem inW_X2 : ∀ w ∈ u_ws RX2 TX2 7, w ∈ gw := gw_ps _ [210, 212, 214, 216, 218, 220, 222] (by decide +kernel) (by decide +kernel)
theorem wm_207 : (Jvm.Cond.fieldLink "SheGoesOut" (186 : Nat) "SheGoesOut$Jobs" "count" "I") ∈ gw := gw_at 207 (by decide +kernel) (by decide +kernel)
theorem fk_RX11_186 : gfk RX11 186 2 5 := ⟨RX2, TX2, 7, rfl, inW_X2, by decide, wm_207⟩
theorem clC_22 : shC[22]? = some (.inl (2, [25, 26, 27, 28, 29, 0, 1])) := rfl
theorem wm_277 : (Jvm.Cond.fieldLink "SheGoesOut" (189 : Nat) "SheGoesOut$State" "book" "LSheGoesOut$Book;") ∈ gw := gw_at 277 (by decide +kernel) (by decide +kernel)
theorem fk_RX11_189 : gfk RX11 189 8 5 := ⟨RX8, TX8, 7, rfl, inW_X8, by decide, wm_277⟩
theorem inW_X0 : ∀ w ∈ u_ws RX0 TX0 4, w ∈ gw := gw_ps _ [236, 238, 240, 242] (by decide +kernel) (by decide +kernel)
theorem wm_235 : (Jvm.Cond.fieldLink "SheGoesOut" (193 : Nat) "SheGoesOut$Book" "count" "I") ∈ gw := gw_at 235 (by decide +kernel) (by decide +kernel)
theorem fk_RX11_193 : gfk RX11 193 0 3 := ⟨RX0, TX0, 4, rfl, inW_X0, by decide, wm_235⟩
theorem clC_28 : shC[28]? = some (.inl (0, [31, 32, 33, 0])) := rfl
theorem wm_279 : (Jvm.Cond.fieldLink "SheGoesOut" (196 : Nat) "SheGoesOut$State" "door" "LSheGoesOut$Door;") ∈ gw := gw_at 279 (by decide +kernel) (by decide +kernel)
theorem fk_RX11_196 : gfk RX11 196 8 6 := ⟨RX8, TX8, 7, rfl, inW_X8, by decide, wm_279⟩
theorem inW_X1 : ∀ w ∈ u_ws RX1 TX1 3, w ∈ gw := gw_ps _ [255, 257, 259] (by decide +kernel) (by decide +kernel)
theorem wm_254 : (Jvm.Cond.fieldLink "SheGoesOut" (200 : Nat) "SheGoesOut$Door" "count" "I") ∈ gw := gw_at 254 (by decide +kernel) (by decide +kernel)
theorem fk_RX11_200 : gfk RX11 200 1 2 := ⟨RX1, TX1, 3, rfl, inW_X1, by decide, wm_254⟩
theorem clC_32 : shC[32]? = some (.inl (1, [35, 36, 0])) := rfl
theorem wm_687 : (Jvm.Cond.methodLink "SheGoesOut" (203 : Nat) ({ cls := "SheGoesOut$Land", name := "searchedCells", desc := "()I" } : Jvm.MethodName)) ∈ gw := gw_at 687 (by decide +kernel) (by decide +kernel)
theorem wm_688 : (Jvm.Cond.instanceMethod ({ cls := "SheGoesOut$Land", name := "searchedCells", desc := "()I" } : Jvm.MethodName)) ∈ gw := gw_at 688 (by decide +kernel) (by decide +kernel)
theorem wm_689 : (Jvm.Cond.selects "SheGoesOut$Land" ({ cls := "SheGoesOut$Land", name := "searchedCells", desc := "()I" } : Jvm.MethodName) ({ cls := "SheGoesOut$Land", name := "searchedCells", desc := "()I" } : Jvm.MethodName)) ∈ gw := gw_at 689 (by decide +kernel) (by decide +kernel)
theorem wm_690 : (Jvm.Cond.code ({ cls := "SheGoesOut$Land", name := "searchedCells", desc := "()I" } : Jvm.MethodName) prog_5_method_7_code (3 : Nat) (Option.some Jvm.ClassFile.FieldType.int)) ∈ gw := gw_at 690 (by decide +kernel) (by decide +kernel)
theorem cv_RX11_203 : gcv RX11 203 yX3_searchedCells cX3_searchedCells 3 (some .int) 0 3 := ⟨⟨wm_687, wm_688, wm_689, wm_49, wm_690⟩, ⟨by decide, by decide, by decide +kernel⟩, ⟨_, rfl, rfl⟩⟩
theorem wm_691 : (Jvm.Cond.methodLink "SheGoesOut" (206 : Nat) ({ cls := "SheGoesOut$Land", name := "cellsOf", desc := "(I)I" } : Jvm.MethodName)) ∈ gw := gw_at 691 (by decide +kernel) (by decide +kernel)
theorem wm_692 : (Jvm.Cond.instanceMethod ({ cls := "SheGoesOut$Land", name := "cellsOf", desc := "(I)I" } : Jvm.MethodName)) ∈ gw := gw_at 692 (by decide +kernel) (by decide +kernel)
theorem wm_693 : (Jvm.Cond.selects "SheGoesOut$Land" ({ cls := "SheGoesOut$Land", name := "cellsOf", desc := "(I)I" } : Jvm.MethodName) ({ cls := "SheGoesOut$Land", name := "cellsOf", desc := "(I)I" } : Jvm.MethodName)) ∈ gw := gw_at 693 (by decide +kernel) (by decide +kernel)
theorem wm_694 : (Jvm.Cond.code ({ cls := "SheGoesOut$Land", name := "cellsOf", desc := "(I)I" } : Jvm.MethodName) prog_5_method_6_code (4 : Nat) (Option.some Jvm.ClassFile.FieldType.int)) ∈ gw := gw_at 694 (by decide +kernel) (by decide +kernel)
theorem cv_RX11_206 : gcv RX11 206 yX3_cellsOf cX3_cellsOf 4 (some .int) 1 3 := ⟨⟨wm_691, wm_692, wm_693, wm_49, wm_694⟩, ⟨by decide, by decide, by decide +kernel⟩, ⟨_, rfl, rfl⟩⟩
theorem ki_2 : Int32.ofInt (2) = (2 : Int32) := by decide
theorem wm_706 : (Jvm.Cond.fieldLink "SheGoesOut$Law" (30 : Nat) "SheGoesOut$Law" "SIGHTS" "[I") ∈ gw := gw_at 706 (by decide +kernel) (by decide +kernel)
theorem wm_702 : (Jvm.Cond.methodLink "SheGoesOut" (212 : Nat) ({ cls := "SheGoesOut$Law", name := "sight", desc := "(IIZI)I" } : Jvm.MethodName)) ∈ gw := gw_at 702 (by decide +kernel) (by decide +kernel)
theorem wm_703 : (Jvm.Cond.instanceMethod ({ cls := "SheGoesOut$Law", name := "sight", desc := "(IIZI)I" } : Jvm.MethodName)) ∈ gw := gw_at 703 (by decide +kernel) (by decide +kernel)
theorem wm_704 : (Jvm.Cond.selects "SheGoesOut$Law" ({ cls := "SheGoesOut$Law", name := "sight", desc := "(IIZI)I" } : Jvm.MethodName) ({ cls := "SheGoesOut$Law", name := "sight", desc := "(IIZI)I" } : Jvm.MethodName)) ∈ gw := gw_at 704 (by decide +kernel) (by decide +kernel)
theorem wm_705 : (Jvm.Cond.code ({ cls := "SheGoesOut$Law", name := "sight", desc := "(IIZI)I" } : Jvm.MethodName) prog_6_method_7_code (6 : Nat) (Option.some Jvm.ClassFile.FieldType.int)) ∈ gw := gw_at 705 (by decide +kernel) (by decide +kernel)
theorem cv_RX11_212 : gcv RX11 212 yX4_sight cX4_sight 6 (some .int) 4 4 := ⟨⟨wm_702, wm_703, wm_704, wm_50, wm_705⟩, ⟨by decide, by decide, by decide +kernel⟩, ⟨_, rfl, rfl⟩⟩
theorem wm_699 : (Jvm.Cond.methodLink "SheGoesOut" (209 : Nat) ({ cls := "SheGoesOut", name := "isSort", desc := "(I)Z" } : Jvm.MethodName)) ∈ gw := gw_at 699 (by decide +kernel) (by decide +kernel)
theorem wm_700 : (Jvm.Cond.static ({ cls := "SheGoesOut", name := "isSort", desc := "(I)Z" } : Jvm.MethodName)) ∈ gw := gw_at 700 (by decide +kernel) (by decide +kernel)
theorem wm_701 : (Jvm.Cond.code ({ cls := "SheGoesOut", name := "isSort", desc := "(I)Z" } : Jvm.MethodName) prog_1_method_49_code (1 : Nat) (Option.some Jvm.ClassFile.FieldType.boolean)) ∈ gw := gw_at 701 (by decide +kernel) (by decide +kernel)
theorem cs_RX11_209 : gcs RX11 209 yX11_isSort cX11_isSort 1 (some .boolean) 1 := ⟨⟨wm_699, wm_700, wm_47, wm_701⟩, by decide, by decide, by decide +kernel⟩
theorem wm_262 : (Jvm.Cond.fieldLink "SheGoesOut$State" (12 : Nat) "SheGoesOut$State" "land" "LSheGoesOut$Land;") ∈ gw := gw_at 262 (by decide +kernel) (by decide +kernel)
theorem fk_RX8_12 : gfk RX8 12 8 0 := ⟨RX8, TX8, 7, rfl, inW_X8, by decide, wm_262⟩
theorem wm_91 : (Jvm.Cond.fieldLink "SheGoesOut$State" (82 : Nat) "SheGoesOut$Land" "kinds" "[I") ∈ gw := gw_at 91 (by decide +kernel) (by decide +kernel)
theorem fk_RX8_82 : gfk RX8 82 3 0 := ⟨RX3, TX3, 3, rfl, inW_X3, by decide, wm_91⟩
theorem wm_267 : (Jvm.Cond.fieldLink "SheGoesOut$State" (28 : Nat) "SheGoesOut$State" "night" "LSheGoesOut$Night;") ∈ gw := gw_at 267 (by decide +kernel) (by decide +kernel)
theorem fk_RX8_28 : gfk RX8 28 8 2 := ⟨RX8, TX8, 7, rfl, inW_X8, by decide, wm_267⟩
theorem wm_138 : (Jvm.Cond.fieldLink "SheGoesOut$State" (99 : Nat) "SheGoesOut$Night" "minute" "I") ∈ gw := gw_at 138 (by decide +kernel) (by decide +kernel)
theorem fk_RX8_99 : gfk RX8 99 6 4 := ⟨RX6, TX6, 5, rfl, inW_X6, by decide, wm_138⟩
theorem wm_265 : (Jvm.Cond.fieldLink "SheGoesOut$State" (21 : Nat) "SheGoesOut$State" "law" "LSheGoesOut$Law;") ∈ gw := gw_at 265 (by decide +kernel) (by decide +kernel)
theorem fk_RX8_21 : gfk RX8 21 8 1 := ⟨RX8, TX8, 7, rfl, inW_X8, by decide, wm_265⟩
theorem wm_720 : (Jvm.Cond.methodLink "SheGoesOut$State" (86 : Nat) ({ cls := "SheGoesOut$Law", name := "sight", desc := "(IIZI)I" } : Jvm.MethodName)) ∈ gw := gw_at 720 (by decide +kernel) (by decide +kernel)
theorem cv_RX8_86 : gcv RX8 86 yX4_sight cX4_sight 6 (some .int) 4 4 := ⟨⟨wm_720, wm_703, wm_704, wm_50, wm_705⟩, ⟨by decide, by decide, by decide +kernel⟩, ⟨_, rfl, rfl⟩⟩
theorem wm_725 : (Jvm.Cond.constantLong "SheGoesOut$Night" (97 : Nat) (16 : Int64)) ∈ gw := gw_at 725 (by decide +kernel) (by decide +kernel)
theorem wm_721 : (Jvm.Cond.methodLink "SheGoesOut$State" (90 : Nat) ({ cls := "SheGoesOut$Night", name := "seen", desc := "(III)J" } : Jvm.MethodName)) ∈ gw := gw_at 721 (by decide +kernel) (by decide +kernel)
theorem wm_722 : (Jvm.Cond.instanceMethod ({ cls := "SheGoesOut$Night", name := "seen", desc := "(III)J" } : Jvm.MethodName)) ∈ gw := gw_at 722 (by decide +kernel) (by decide +kernel)
theorem wm_723 : (Jvm.Cond.selects "SheGoesOut$Night" ({ cls := "SheGoesOut$Night", name := "seen", desc := "(III)J" } : Jvm.MethodName) ({ cls := "SheGoesOut$Night", name := "seen", desc := "(III)J" } : Jvm.MethodName)) ∈ gw := gw_at 723 (by decide +kernel) (by decide +kernel)
theorem wm_724 : (Jvm.Cond.code ({ cls := "SheGoesOut$Night", name := "seen", desc := "(III)J" } : Jvm.MethodName) prog_8_method_14_code (7 : Nat) (Option.some Jvm.ClassFile.FieldType.long)) ∈ gw := gw_at 724 (by decide +kernel) (by decide +kernel)
theorem cv_RX8_90 : gcv RX8 90 yX6_seen cX6_seen 7 (some .long) 3 6 := ⟨⟨wm_721, wm_722, wm_723, wm_51, wm_724⟩, ⟨by decide, by decide, by decide +kernel⟩, ⟨_, rfl, rfl⟩⟩
theorem wm_716 : (Jvm.Cond.methodLink "SheGoesOut$State" (94 : Nat) ({ cls := "SheGoesOut$State", name := "seen", desc := "(III)J" } : Jvm.MethodName)) ∈ gw := gw_at 716 (by decide +kernel) (by decide +kernel)
theorem wm_717 : (Jvm.Cond.instanceMethod ({ cls := "SheGoesOut$State", name := "seen", desc := "(III)J" } : Jvm.MethodName)) ∈ gw := gw_at 717 (by decide +kernel) (by decide +kernel)
theorem wm_718 : (Jvm.Cond.selects "SheGoesOut$State" ({ cls := "SheGoesOut$State", name := "seen", desc := "(III)J" } : Jvm.MethodName) ({ cls := "SheGoesOut$State", name := "seen", desc := "(III)J" } : Jvm.MethodName)) ∈ gw := gw_at 718 (by decide +kernel) (by decide +kernel)
theorem wm_48 : (Jvm.Cond.initialized "SheGoesOut$State") ∈ gw := gw_at 48 (by decide +kernel) (by decide +kernel)
theorem wm_719 : (Jvm.Cond.code ({ cls := "SheGoesOut$State", name := "seen", desc := "(III)J" } : Jvm.MethodName) prog_10_method_3_code (5 : Nat) (Option.some Jvm.ClassFile.FieldType.long)) ∈ gw := gw_at 719 (by decide +kernel) (by decide +kernel)
theorem cv_RX8_94 : gcv RX8 94 yX8_seen cX8_seen 5 (some .long) 3 8 := ⟨⟨wm_716, wm_717, wm_718, wm_48, wm_719⟩, ⟨by decide, by decide, by decide +kernel⟩, ⟨_, rfl, rfl⟩⟩
theorem wm_726 : (Jvm.Cond.methodLink "SheGoesOut$State" (103 : Nat) ({ cls := "SheGoesOut$Night", name := "lose", desc := "(III)V" } : Jvm.MethodName)) ∈ gw := gw_at 726 (by decide +kernel) (by decide +kernel)
theorem wm_727 : (Jvm.Cond.instanceMethod ({ cls := "SheGoesOut$Night", name := "lose", desc := "(III)V" } : Jvm.MethodName)) ∈ gw := gw_at 727 (by decide +kernel) (by decide +kernel)
theorem wm_728 : (Jvm.Cond.selects "SheGoesOut$Night" ({ cls := "SheGoesOut$Night", name := "lose", desc := "(III)V" } : Jvm.MethodName) ({ cls := "SheGoesOut$Night", name := "lose", desc := "(III)V" } : Jvm.MethodName)) ∈ gw := gw_at 728 (by decide +kernel) (by decide +kernel)
theorem wm_729 : (Jvm.Cond.code ({ cls := "SheGoesOut$Night", name := "lose", desc := "(III)V" } : Jvm.MethodName) prog_8_method_15_code (6 : Nat) (Option.none : Option Jvm.ClassFile.FieldType)) ∈ gw := gw_at 729 (by decide +kernel) (by decide +kernel)
theorem cv_RX8_103 : gcv RX8 103 yX6_lose cX6_lose 6 none 3 6 := ⟨⟨wm_726, wm_727, wm_728, wm_51, wm_729⟩, ⟨by decide, by decide, by decide +kernel⟩, ⟨_, rfl, rfl⟩⟩
theorem wm_98 : (Jvm.Cond.fieldLink "SheGoesOut$State" (107 : Nat) "SheGoesOut$Land" "searched" "[I") ∈ gw := gw_at 98 (by decide +kernel) (by decide +kernel)
theorem fk_RX8_107 : gfk RX8 107 3 2 := ⟨RX3, TX3, 3, rfl, inW_X3, by decide, wm_98⟩
theorem wm_712 : (Jvm.Cond.methodLink "SheGoesOut" (216 : Nat) ({ cls := "SheGoesOut$State", name := "lookFor", desc := "(II)J" } : Jvm.MethodName)) ∈ gw := gw_at 712 (by decide +kernel) (by decide +kernel)
theorem wm_713 : (Jvm.Cond.instanceMethod ({ cls := "SheGoesOut$State", name := "lookFor", desc := "(II)J" } : Jvm.MethodName)) ∈ gw := gw_at 713 (by decide +kernel) (by decide +kernel)
theorem wm_714 : (Jvm.Cond.selects "SheGoesOut$State" ({ cls := "SheGoesOut$State", name := "lookFor", desc := "(II)J" } : Jvm.MethodName) ({ cls := "SheGoesOut$State", name := "lookFor", desc := "(II)J" } : Jvm.MethodName)) ∈ gw := gw_at 714 (by decide +kernel) (by decide +kernel)
theorem wm_715 : (Jvm.Cond.code ({ cls := "SheGoesOut$State", name := "lookFor", desc := "(II)J" } : Jvm.MethodName) prog_10_method_5_code (6 : Nat) (Option.some Jvm.ClassFile.FieldType.long)) ∈ gw := gw_at 715 (by decide +kernel) (by decide +kernel)
theorem cv_RX11_216 : gcv RX11 216 yX8_lookFor cX8_lookFor 6 (some .long) 2 8 := ⟨⟨wm_712, wm_713, wm_714, wm_48, wm_715⟩, ⟨by decide, by decide, by decide +kernel⟩, ⟨_, rfl, rfl⟩⟩
theorem wm_733 : (Jvm.Cond.constantLong "SheGoesOut" (359 : Nat) (1000 : Int64)) ∈ gw := gw_at 733 (by decide +kernel) (by decide +kernel)
theorem wm_730 : (Jvm.Cond.methodLink "SheGoesOut" (220 : Nat) ({ cls := "SheGoesOut", name := "thousandths", desc := "(JJ)I" } : Jvm.MethodName)) ∈ gw := gw_at 730 (by decide +kernel) (by decide +kernel)
theorem wm_731 : (Jvm.Cond.static ({ cls := "SheGoesOut", name := "thousandths", desc := "(JJ)I" } : Jvm.MethodName)) ∈ gw := gw_at 731 (by decide +kernel) (by decide +kernel)
theorem wm_732 : (Jvm.Cond.code ({ cls := "SheGoesOut", name := "thousandths", desc := "(JJ)I" } : Jvm.MethodName) prog_1_method_52_code (4 : Nat) (Option.some Jvm.ClassFile.FieldType.int)) ∈ gw := gw_at 732 (by decide +kernel) (by decide +kernel)
theorem cs_RX11_220 : gcs RX11 220 yX11_thousandths cX11_thousandths 4 (some .int) 2 := ⟨⟨wm_730, wm_731, wm_47, wm_732⟩, by decide, by decide, by decide +kernel⟩
theorem ks_240 : (Int16.ofInt (240)).toInt32 = (240 : Int32) := by decide
theorem kb_20 : (Int8.ofInt (20)).toInt32 = (20 : Int32) := by decide
theorem wm_742 : (Jvm.Cond.methodLink "SheGoesOut$Law" (24 : Nat) ({ cls := "java/lang/Math", name := "max", desc := "(II)I" } : Jvm.MethodName)) ∈ gw := gw_at 742 (by decide +kernel) (by decide +kernel)
theorem wm_738 : (Jvm.Cond.methodLink "SheGoesOut" (224 : Nat) ({ cls := "SheGoesOut$Law", name := "livingAt", desc := "(I)I" } : Jvm.MethodName)) ∈ gw := gw_at 738 (by decide +kernel) (by decide +kernel)
theorem wm_739 : (Jvm.Cond.instanceMethod ({ cls := "SheGoesOut$Law", name := "livingAt", desc := "(I)I" } : Jvm.MethodName)) ∈ gw := gw_at 739 (by decide +kernel) (by decide +kernel)
theorem wm_740 : (Jvm.Cond.selects "SheGoesOut$Law" ({ cls := "SheGoesOut$Law", name := "livingAt", desc := "(I)I" } : Jvm.MethodName) ({ cls := "SheGoesOut$Law", name := "livingAt", desc := "(I)I" } : Jvm.MethodName)) ∈ gw := gw_at 740 (by decide +kernel) (by decide +kernel)
theorem wm_741 : (Jvm.Cond.code ({ cls := "SheGoesOut$Law", name := "livingAt", desc := "(I)I" } : Jvm.MethodName) prog_6_method_6_code (3 : Nat) (Option.some Jvm.ClassFile.FieldType.int)) ∈ gw := gw_at 741 (by decide +kernel) (by decide +kernel)
theorem cv_RX11_224 : gcv RX11 224 yX4_livingAt cX4_livingAt 3 (some .int) 1 4 := ⟨⟨wm_738, wm_739, wm_740, wm_50, wm_741⟩, ⟨by decide, by decide, by decide +kernel⟩, ⟨_, rfl, rfl⟩⟩
theorem wm_167 : (Jvm.Cond.fieldLink "SheGoesOut$Teams" (34 : Nat) "SheGoesOut$Teams" "count" "I") ∈ gw := gw_at 167 (by decide +kernel) (by decide +kernel)
theorem fk_RX10_34 : gfk RX10 34 10 7 := ⟨RX10, TX10, 10, rfl, inW_X10, by decide, wm_167⟩
theorem wm_159 : (Jvm.Cond.fieldLink "SheGoesOut$Teams" (11 : Nat) "SheGoesOut$Teams" "sorts" "[I") ∈ gw := gw_at 159 (by decide +kernel) (by decide +kernel)
theorem fk_RX10_11 : gfk RX10 11 10 0 := ⟨RX10, TX10, 10, rfl, inW_X10, by decide, wm_159⟩
theorem clC_15 : shC[15]? = some (.inr (0, 4)) := rfl
theorem wm_160 : (Jvm.Cond.fieldLink "SheGoesOut$Teams" (15 : Nat) "SheGoesOut$Teams" "cells" "[I") ∈ gw := gw_at 160 (by decide +kernel) (by decide +kernel)
theorem fk_RX10_15 : gfk RX10 15 10 1 := ⟨RX10, TX10, 10, rfl, inW_X10, by decide, wm_160⟩
theorem clC_16 : shC[16]? = some (.inr (0, 4)) := rfl
theorem wm_161 : (Jvm.Cond.fieldLink "SheGoesOut$Teams" (18 : Nat) "SheGoesOut$Teams" "paces" "[I") ∈ gw := gw_at 161 (by decide +kernel) (by decide +kernel)
theorem fk_RX10_18 : gfk RX10 18 10 2 := ⟨RX10, TX10, 10, rfl, inW_X10, by decide, wm_161⟩
theorem clC_17 : shC[17]? = some (.inr (0, 4)) := rfl
theorem fp_RX10_34 : gfp RX10 34 10 7 .int := ⟨RX10, TX10, 10, tyX10, rfl, inW_X10, by decide, wm_167, tyX10_ok, nmX10, rfl, rfl⟩
theorem wm_747 : (Jvm.Cond.methodLink "SheGoesOut" (227 : Nat) ({ cls := "SheGoesOut$Teams", name := "addTeam", desc := "(III)I" } : Jvm.MethodName)) ∈ gw := gw_at 747 (by decide +kernel) (by decide +kernel)
theorem wm_748 : (Jvm.Cond.instanceMethod ({ cls := "SheGoesOut$Teams", name := "addTeam", desc := "(III)I" } : Jvm.MethodName)) ∈ gw := gw_at 748 (by decide +kernel) (by decide +kernel)
theorem wm_749 : (Jvm.Cond.selects "SheGoesOut$Teams" ({ cls := "SheGoesOut$Teams", name := "addTeam", desc := "(III)I" } : Jvm.MethodName) ({ cls := "SheGoesOut$Teams", name := "addTeam", desc := "(III)I" } : Jvm.MethodName)) ∈ gw := gw_at 749 (by decide +kernel) (by decide +kernel)
theorem wm_52 : (Jvm.Cond.initialized "SheGoesOut$Teams") ∈ gw := gw_at 52 (by decide +kernel) (by decide +kernel)
theorem wm_750 : (Jvm.Cond.code ({ cls := "SheGoesOut$Teams", name := "addTeam", desc := "(III)I" } : Jvm.MethodName) prog_12_method_4_code (4 : Nat) (Option.some Jvm.ClassFile.FieldType.int)) ∈ gw := gw_at 750 (by decide +kernel) (by decide +kernel)
theorem cv_RX11_227 : gcv RX11 227 yX10_addTeam cX10_addTeam 4 (some .int) 3 10 := ⟨⟨wm_747, wm_748, wm_749, wm_52, wm_750⟩, ⟨by decide, by decide, by decide +kernel⟩, ⟨_, rfl, rfl⟩⟩
theorem wm_169 : (Jvm.Cond.fieldLink "SheGoesOut$Teams" (38 : Nat) "SheGoesOut$Teams" "placeCount" "I") ∈ gw := gw_at 169 (by decide +kernel) (by decide +kernel)
theorem fk_RX10_38 : gfk RX10 38 10 8 := ⟨RX10, TX10, 10, rfl, inW_X10, by decide, wm_169⟩
theorem wm_162 : (Jvm.Cond.fieldLink "SheGoesOut$Teams" (21 : Nat) "SheGoesOut$Teams" "places" "[I") ∈ gw := gw_at 162 (by decide +kernel) (by decide +kernel)
theorem fk_RX10_21 : gfk RX10 21 10 3 := ⟨RX10, TX10, 10, rfl, inW_X10, by decide, wm_162⟩
theorem clC_18 : shC[18]? = some (.inr (0, 6)) := rfl
theorem wm_759 : (Jvm.Cond.methodLink "SheGoesOut$Teams" (51 : Nat) ({ cls := "SheGoesOut$Teams", name := "hasPlace", desc := "(I)Z" } : Jvm.MethodName)) ∈ gw := gw_at 759 (by decide +kernel) (by decide +kernel)
theorem wm_761 : (Jvm.Cond.instanceMethod ({ cls := "SheGoesOut$Teams", name := "hasPlace", desc := "(I)Z" } : Jvm.MethodName)) ∈ gw := gw_at 761 (by decide +kernel) (by decide +kernel)
theorem wm_11 : (Jvm.Cond.selects "SheGoesOut$Teams" ({ cls := "SheGoesOut$Teams", name := "hasPlace", desc := "(I)Z" } : Jvm.MethodName) ({ cls := "SheGoesOut$Teams", name := "hasPlace", desc := "(I)Z" } : Jvm.MethodName)) ∈ gw := gw_at 11 (by decide +kernel) (by decide +kernel)
theorem wm_762 : (Jvm.Cond.code ({ cls := "SheGoesOut$Teams", name := "hasPlace", desc := "(I)Z" } : Jvm.MethodName) prog_12_method_5_code (3 : Nat) (Option.some Jvm.ClassFile.FieldType.boolean)) ∈ gw := gw_at 762 (by decide +kernel) (by decide +kernel)
theorem cv_RX10_51 : gcv RX10 51 yX10_hasPlace cX10_hasPlace 3 (some .boolean) 1 10 := ⟨⟨wm_759, wm_761, wm_11, wm_52, wm_762⟩, ⟨by decide, by decide, by decide +kernel⟩, ⟨_, rfl, rfl⟩⟩
theorem fp_RX10_38 : gfp RX10 38 10 8 .int := ⟨RX10, TX10, 10, tyX10, rfl, inW_X10, by decide, wm_169, tyX10_ok, nmX10, rfl, rfl⟩
theorem wm_755 : (Jvm.Cond.methodLink "SheGoesOut" (231 : Nat) ({ cls := "SheGoesOut$Teams", name := "addPlace", desc := "(I)I" } : Jvm.MethodName)) ∈ gw := gw_at 755 (by decide +kernel) (by decide +kernel)
theorem wm_756 : (Jvm.Cond.instanceMethod ({ cls := "SheGoesOut$Teams", name := "addPlace", desc := "(I)I" } : Jvm.MethodName)) ∈ gw := gw_at 756 (by decide +kernel) (by decide +kernel)
theorem wm_757 : (Jvm.Cond.selects "SheGoesOut$Teams" ({ cls := "SheGoesOut$Teams", name := "addPlace", desc := "(I)I" } : Jvm.MethodName) ({ cls := "SheGoesOut$Teams", name := "addPlace", desc := "(I)I" } : Jvm.MethodName)) ∈ gw := gw_at 757 (by decide +kernel) (by decide +kernel)
theorem wm_758 : (Jvm.Cond.code ({ cls := "SheGoesOut$Teams", name := "addPlace", desc := "(I)I" } : Jvm.MethodName) prog_12_method_6_code (2 : Nat) (Option.some Jvm.ClassFile.FieldType.int)) ∈ gw := gw_at 758 (by decide +kernel) (by decide +kernel)
theorem cv_RX11_231 : gcv RX11 231 yX10_addPlace cX10_addPlace 2 (some .int) 1 10 := ⟨⟨wm_755, wm_756, wm_757, wm_52, wm_758⟩, ⟨by decide, by decide, by decide +kernel⟩, ⟨_, rfl, rfl⟩⟩
theorem wm_778 : (Jvm.Cond.methodLink "SheGoesOut$Land" (45 : Nat) ({ cls := "java/lang/Math", name := "abs", desc := "(I)I" } : Jvm.MethodName)) ∈ gw := gw_at 778 (by decide +kernel) (by decide +kernel)
theorem wm_779 : (Jvm.Cond.static ({ cls := "java/lang/Math", name := "abs", desc := "(I)I" } : Jvm.MethodName)) ∈ gw := gw_at 779 (by decide +kernel) (by decide +kernel)
theorem wm_780 : (Jvm.Cond.code ({ cls := "java/lang/Math", name := "abs", desc := "(I)I" } : Jvm.MethodName) prog_17_method_59_code (1 : Nat) (Option.some Jvm.ClassFile.FieldType.int)) ∈ gw := gw_at 780 (by decide +kernel) (by decide +kernel)
theorem wm_775 : (Jvm.Cond.methodLink "SheGoesOut$Teams" (55 : Nat) ({ cls := "SheGoesOut$Land", name := "rowsApart", desc := "(II)I" } : Jvm.MethodName)) ∈ gw := gw_at 775 (by decide +kernel) (by decide +kernel)
theorem wm_776 : (Jvm.Cond.static ({ cls := "SheGoesOut$Land", name := "rowsApart", desc := "(II)I" } : Jvm.MethodName)) ∈ gw := gw_at 776 (by decide +kernel) (by decide +kernel)
theorem wm_777 : (Jvm.Cond.code ({ cls := "SheGoesOut$Land", name := "rowsApart", desc := "(II)I" } : Jvm.MethodName) prog_5_method_12_code (2 : Nat) (Option.some Jvm.ClassFile.FieldType.int)) ∈ gw := gw_at 777 (by decide +kernel) (by decide +kernel)
theorem cs_RX10_55 : gcs RX10 55 yX3_rowsApart cX3_rowsApart 2 (some .int) 2 := ⟨⟨wm_775, wm_776, wm_49, wm_777⟩, by decide, by decide, by decide +kernel⟩
theorem wm_781 : (Jvm.Cond.methodLink "SheGoesOut$Teams" (61 : Nat) ({ cls := "SheGoesOut$Land", name := "columnsApart", desc := "(II)I" } : Jvm.MethodName)) ∈ gw := gw_at 781 (by decide +kernel) (by decide +kernel)
theorem wm_782 : (Jvm.Cond.static ({ cls := "SheGoesOut$Land", name := "columnsApart", desc := "(II)I" } : Jvm.MethodName)) ∈ gw := gw_at 782 (by decide +kernel) (by decide +kernel)
theorem wm_783 : (Jvm.Cond.code ({ cls := "SheGoesOut$Land", name := "columnsApart", desc := "(II)I" } : Jvm.MethodName) prog_5_method_13_code (2 : Nat) (Option.some Jvm.ClassFile.FieldType.int)) ∈ gw := gw_at 783 (by decide +kernel) (by decide +kernel)
theorem cs_RX10_61 : gcs RX10 61 yX3_columnsApart cX3_columnsApart 2 (some .int) 2 := ⟨⟨wm_781, wm_782, wm_49, wm_783⟩, by decide, by decide, by decide +kernel⟩
theorem wm_270 : (Jvm.Cond.fieldLink "SheGoesOut$Teams" (64 : Nat) "SheGoesOut$State" "night" "LSheGoesOut$Night;") ∈ gw := gw_at 270 (by decide +kernel) (by decide +kernel)
theorem fk_RX10_64 : gfk RX10 64 8 2 := ⟨RX8, TX8, 7, rfl, inW_X8, by decide, wm_270⟩
theorem wm_139 : (Jvm.Cond.fieldLink "SheGoesOut$Teams" (70 : Nat) "SheGoesOut$Night" "minute" "I") ∈ gw := gw_at 139 (by decide +kernel) (by decide +kernel)
theorem fk_RX10_70 : gfk RX10 70 6 4 := ⟨RX6, TX6, 5, rfl, inW_X6, by decide, wm_139⟩
theorem wm_163 : (Jvm.Cond.fieldLink "SheGoesOut$Teams" (24 : Nat) "SheGoesOut$Teams" "values" "[J") ∈ gw := gw_at 163 (by decide +kernel) (by decide +kernel)
theorem fk_RX10_24 : gfk RX10 24 10 4 := ⟨RX10, TX10, 10, rfl, inW_X10, by decide, wm_163⟩
theorem wm_788 : (Jvm.Cond.methodLink "SheGoesOut$State" (95 : Nat) ({ cls := "SheGoesOut$Law", name := "livingAt", desc := "(I)I" } : Jvm.MethodName)) ∈ gw := gw_at 788 (by decide +kernel) (by decide +kernel)
theorem cv_RX8_95 : gcv RX8 95 yX4_livingAt cX4_livingAt 3 (some .int) 1 4 := ⟨⟨wm_788, wm_739, wm_740, wm_50, wm_741⟩, ⟨by decide, by decide, by decide +kernel⟩, ⟨_, rfl, rfl⟩⟩
theorem wm_784 : (Jvm.Cond.methodLink "SheGoesOut$Teams" (75 : Nat) ({ cls := "SheGoesOut$State", name := "worth", desc := "(IIII)J" } : Jvm.MethodName)) ∈ gw := gw_at 784 (by decide +kernel) (by decide +kernel)
theorem wm_785 : (Jvm.Cond.instanceMethod ({ cls := "SheGoesOut$State", name := "worth", desc := "(IIII)J" } : Jvm.MethodName)) ∈ gw := gw_at 785 (by decide +kernel) (by decide +kernel)
theorem wm_786 : (Jvm.Cond.selects "SheGoesOut$State" ({ cls := "SheGoesOut$State", name := "worth", desc := "(IIII)J" } : Jvm.MethodName) ({ cls := "SheGoesOut$State", name := "worth", desc := "(IIII)J" } : Jvm.MethodName)) ∈ gw := gw_at 786 (by decide +kernel) (by decide +kernel)
theorem wm_787 : (Jvm.Cond.code ({ cls := "SheGoesOut$State", name := "worth", desc := "(IIII)J" } : Jvm.MethodName) prog_10_method_4_code (5 : Nat) (Option.some Jvm.ClassFile.FieldType.long)) ∈ gw := gw_at 787 (by decide +kernel) (by decide +kernel)
theorem cv_RX10_75 : gcv RX10 75 yX8_worth cX8_worth 5 (some .long) 4 8 := ⟨⟨wm_784, wm_785, wm_786, wm_48, wm_787⟩, ⟨by decide, by decide, by decide +kernel⟩, ⟨_, rfl, rfl⟩⟩
theorem clC_19 : shC[19]? = some (.inr (1, 24)) := rfl
theorem wm_771 : (Jvm.Cond.methodLink "SheGoesOut$Teams" (79 : Nat) ({ cls := "SheGoesOut$Teams", name := "weigh", desc := "(LSheGoesOut$State;)V" } : Jvm.MethodName)) ∈ gw := gw_at 771 (by decide +kernel) (by decide +kernel)
theorem wm_773 : (Jvm.Cond.instanceMethod ({ cls := "SheGoesOut$Teams", name := "weigh", desc := "(LSheGoesOut$State;)V" } : Jvm.MethodName)) ∈ gw := gw_at 773 (by decide +kernel) (by decide +kernel)
theorem wm_12 : (Jvm.Cond.selects "SheGoesOut$Teams" ({ cls := "SheGoesOut$Teams", name := "weigh", desc := "(LSheGoesOut$State;)V" } : Jvm.MethodName) ({ cls := "SheGoesOut$Teams", name := "weigh", desc := "(LSheGoesOut$State;)V" } : Jvm.MethodName)) ∈ gw := gw_at 12 (by decide +kernel) (by decide +kernel)
theorem wm_774 : (Jvm.Cond.code ({ cls := "SheGoesOut$Teams", name := "weigh", desc := "(LSheGoesOut$State;)V" } : Jvm.MethodName) prog_12_method_7_code (6 : Nat) (Option.none : Option Jvm.ClassFile.FieldType)) ∈ gw := gw_at 774 (by decide +kernel) (by decide +kernel)
theorem cv_RX10_79 : gcv RX10 79 yX10_weigh cX10_weigh 6 none 1 10 := ⟨⟨wm_771, wm_773, wm_12, wm_52, wm_774⟩, ⟨by decide, by decide, by decide +kernel⟩, ⟨_, rfl, rfl⟩⟩
theorem wm_789 : (Jvm.Cond.constantLong "SheGoesOut$Teams" (83 : Nat) (-1 : Int64)) ∈ gw := gw_at 789 (by decide +kernel) (by decide +kernel)
theorem wm_171 : (Jvm.Cond.fieldLink "SheGoesOut$Teams" (41 : Nat) "SheGoesOut$Teams" "most" "J") ∈ gw := gw_at 171 (by decide +kernel) (by decide +kernel)
theorem fp_RX10_41 : gfp RX10 41 10 9 .long := ⟨RX10, TX10, 10, tyX10, rfl, inW_X10, by decide, wm_171, tyX10_ok, nmX10, rfl, rfl⟩
theorem wm_164 : (Jvm.Cond.fieldLink "SheGoesOut$Teams" (28 : Nat) "SheGoesOut$Teams" "tried" "[I") ∈ gw := gw_at 164 (by decide +kernel) (by decide +kernel)
theorem fk_RX10_28 : gfk RX10 28 10 5 := ⟨RX10, TX10, 10, rfl, inW_X10, by decide, wm_164⟩
theorem clC_20 : shC[20]? = some (.inr (0, 4)) := rfl
theorem wm_790 : (Jvm.Cond.methodLink "SheGoesOut$Teams" (85 : Nat) ({ cls := "SheGoesOut$Teams", name := "send", desc := "(IIJ)V" } : Jvm.MethodName)) ∈ gw := gw_at 790 (by decide +kernel) (by decide +kernel)
theorem wm_792 : (Jvm.Cond.instanceMethod ({ cls := "SheGoesOut$Teams", name := "send", desc := "(IIJ)V" } : Jvm.MethodName)) ∈ gw := gw_at 792 (by decide +kernel) (by decide +kernel)
theorem wm_13 : (Jvm.Cond.selects "SheGoesOut$Teams" ({ cls := "SheGoesOut$Teams", name := "send", desc := "(IIJ)V" } : Jvm.MethodName) ({ cls := "SheGoesOut$Teams", name := "send", desc := "(IIJ)V" } : Jvm.MethodName)) ∈ gw := gw_at 13 (by decide +kernel) (by decide +kernel)
theorem wm_793 : (Jvm.Cond.code ({ cls := "SheGoesOut$Teams", name := "send", desc := "(IIJ)V" } : Jvm.MethodName) prog_12_method_9_code (6 : Nat) (Option.none : Option Jvm.ClassFile.FieldType)) ∈ gw := gw_at 793 (by decide +kernel) (by decide +kernel)
theorem cv_RX10_85 : gcv RX10 85 yX10_send cX10_send 6 none 3 10 := ⟨⟨wm_790, wm_792, wm_13, wm_52, wm_793⟩, ⟨by decide, by decide, by decide +kernel⟩, ⟨_, rfl, rfl⟩⟩
theorem fk_RX10_41 : gfk RX10 41 10 9 := ⟨RX10, TX10, 10, rfl, inW_X10, by decide, wm_171⟩
theorem wm_165 : (Jvm.Cond.fieldLink "SheGoesOut$Teams" (31 : Nat) "SheGoesOut$Teams" "chosen" "[I") ∈ gw := gw_at 165 (by decide +kernel) (by decide +kernel)
theorem fk_RX10_31 : gfk RX10 31 10 6 := ⟨RX10, TX10, 10, rfl, inW_X10, by decide, wm_165⟩
theorem wm_794 : (Jvm.Cond.methodLink "SheGoesOut$Teams" (45 : Nat) ({ cls := "java/lang/System", name := "arraycopy", desc := "(Ljava/lang/Object;ILjava/lang/Object;II)V" } : Jvm.MethodName)) ∈ gw := gw_at 794 (by decide +kernel) (by decide +kernel)
theorem clC_21 : shC[21]? = some (.inr (0, 4)) := rfl
theorem wm_767 : (Jvm.Cond.methodLink "SheGoesOut" (234 : Nat) ({ cls := "SheGoesOut$Teams", name := "choose", desc := "(LSheGoesOut$State;)V" } : Jvm.MethodName)) ∈ gw := gw_at 767 (by decide +kernel) (by decide +kernel)
theorem wm_768 : (Jvm.Cond.instanceMethod ({ cls := "SheGoesOut$Teams", name := "choose", desc := "(LSheGoesOut$State;)V" } : Jvm.MethodName)) ∈ gw := gw_at 768 (by decide +kernel) (by decide +kernel)
theorem wm_769 : (Jvm.Cond.selects "SheGoesOut$Teams" ({ cls := "SheGoesOut$Teams", name := "choose", desc := "(LSheGoesOut$State;)V" } : Jvm.MethodName) ({ cls := "SheGoesOut$Teams", name := "choose", desc := "(LSheGoesOut$State;)V" } : Jvm.MethodName)) ∈ gw := gw_at 769 (by decide +kernel) (by decide +kernel)
theorem wm_770 : (Jvm.Cond.code ({ cls := "SheGoesOut$Teams", name := "choose", desc := "(LSheGoesOut$State;)V" } : Jvm.MethodName) prog_12_method_8_code (2 : Nat) (Option.none : Option Jvm.ClassFile.FieldType)) ∈ gw := gw_at 770 (by decide +kernel) (by decide +kernel)
theorem cv_RX11_234 : gcv RX11 234 yX10_choose cX10_choose 2 none 1 10 := ⟨⟨wm_767, wm_768, wm_769, wm_52, wm_770⟩, ⟨by decide, by decide, by decide +kernel⟩, ⟨_, rfl, rfl⟩⟩
theorem wm_166 : (Jvm.Cond.fieldLink "SheGoesOut" (242 : Nat) "SheGoesOut$Teams" "chosen" "[I") ∈ gw := gw_at 166 (by decide +kernel) (by decide +kernel)
theorem fk_RX11_242 : gfk RX11 242 10 6 := ⟨RX10, TX10, 10, rfl, inW_X10, by decide, wm_166⟩
theorem wm_172 : (Jvm.Cond.fieldLink "SheGoesOut" (238 : Nat) "SheGoesOut$Teams" "most" "J") ∈ gw := gw_at 172 (by decide +kernel) (by decide +kernel)
theorem fk_RX11_238 : gfk RX11 238 10 9 := ⟨RX10, TX10, 10, rfl, inW_X10, by decide, wm_172⟩
theorem wm_803 : (Jvm.Cond.methodLink "SheGoesOut$Teams" (89 : Nat) ({ cls := "java/lang/Math", name := "max", desc := "(JJ)J" } : Jvm.MethodName)) ∈ gw := gw_at 803 (by decide +kernel) (by decide +kernel)
theorem wm_804 : (Jvm.Cond.static ({ cls := "java/lang/Math", name := "max", desc := "(JJ)J" } : Jvm.MethodName)) ∈ gw := gw_at 804 (by decide +kernel) (by decide +kernel)
theorem wm_805 : (Jvm.Cond.code ({ cls := "java/lang/Math", name := "max", desc := "(JJ)J" } : Jvm.MethodName) prog_17_method_66_code (4 : Nat) (Option.some Jvm.ClassFile.FieldType.long)) ∈ gw := gw_at 805 (by decide +kernel) (by decide +kernel)
theorem wm_799 : (Jvm.Cond.methodLink "SheGoesOut" (245 : Nat) ({ cls := "SheGoesOut$Teams", name := "greatestTogether", desc := "(LSheGoesOut$State;)J" } : Jvm.MethodName)) ∈ gw := gw_at 799 (by decide +kernel) (by decide +kernel)
theorem wm_800 : (Jvm.Cond.instanceMethod ({ cls := "SheGoesOut$Teams", name := "greatestTogether", desc := "(LSheGoesOut$State;)J" } : Jvm.MethodName)) ∈ gw := gw_at 800 (by decide +kernel) (by decide +kernel)
theorem wm_801 : (Jvm.Cond.selects "SheGoesOut$Teams" ({ cls := "SheGoesOut$Teams", name := "greatestTogether", desc := "(LSheGoesOut$State;)J" } : Jvm.MethodName) ({ cls := "SheGoesOut$Teams", name := "greatestTogether", desc := "(LSheGoesOut$State;)J" } : Jvm.MethodName)) ∈ gw := gw_at 801 (by decide +kernel) (by decide +kernel)
theorem wm_802 : (Jvm.Cond.code ({ cls := "SheGoesOut$Teams", name := "greatestTogether", desc := "(LSheGoesOut$State;)J" } : Jvm.MethodName) prog_12_method_10_code (8 : Nat) (Option.some Jvm.ClassFile.FieldType.long)) ∈ gw := gw_at 802 (by decide +kernel) (by decide +kernel)
theorem cv_RX11_245 : gcv RX11 245 yX10_greatestTogether cX10_greatestTogether 8 (some .long) 1 10 := ⟨⟨wm_799, wm_800, wm_801, wm_52, wm_802⟩, ⟨by decide, by decide, by decide +kernel⟩, ⟨_, rfl, rfl⟩⟩
theorem wm_814 : (Jvm.Cond.constantLong "SheGoesOut$State" (110 : Nat) (-1 : Int64)) ∈ gw := gw_at 814 (by decide +kernel) (by decide +kernel)
theorem wm_810 : (Jvm.Cond.methodLink "SheGoesOut" (249 : Nat) ({ cls := "SheGoesOut$State", name := "bestOf", desc := "(IZ)I" } : Jvm.MethodName)) ∈ gw := gw_at 810 (by decide +kernel) (by decide +kernel)
theorem wm_811 : (Jvm.Cond.instanceMethod ({ cls := "SheGoesOut$State", name := "bestOf", desc := "(IZ)I" } : Jvm.MethodName)) ∈ gw := gw_at 811 (by decide +kernel) (by decide +kernel)
theorem wm_812 : (Jvm.Cond.selects "SheGoesOut$State" ({ cls := "SheGoesOut$State", name := "bestOf", desc := "(IZ)I" } : Jvm.MethodName) ({ cls := "SheGoesOut$State", name := "bestOf", desc := "(IZ)I" } : Jvm.MethodName)) ∈ gw := gw_at 812 (by decide +kernel) (by decide +kernel)
theorem wm_813 : (Jvm.Cond.code ({ cls := "SheGoesOut$State", name := "bestOf", desc := "(IZ)I" } : Jvm.MethodName) prog_10_method_6_code (9 : Nat) (Option.some Jvm.ClassFile.FieldType.int)) ∈ gw := gw_at 813 (by decide +kernel) (by decide +kernel)
theorem cv_RX11_249 : gcv RX11 249 yX8_bestOf cX8_bestOf 9 (some .int) 2 8 := ⟨⟨wm_810, wm_811, wm_812, wm_48, wm_813⟩, ⟨by decide, by decide, by decide +kernel⟩, ⟨_, rfl, rfl⟩⟩
theorem wm_819 : (Jvm.Cond.methodLink "SheGoesOut$State" (112 : Nat) ({ cls := "SheGoesOut$State", name := "bestOf", desc := "(IZ)I" } : Jvm.MethodName)) ∈ gw := gw_at 819 (by decide +kernel) (by decide +kernel)
theorem cv_RX8_112 : gcv RX8 112 yX8_bestOf cX8_bestOf 9 (some .int) 2 8 := ⟨⟨wm_819, wm_811, wm_812, wm_48, wm_813⟩, ⟨by decide, by decide, by decide +kernel⟩, ⟨_, rfl, rfl⟩⟩
theorem wm_815 : (Jvm.Cond.methodLink "SheGoesOut" (253 : Nat) ({ cls := "SheGoesOut$State", name := "isWorthMore", desc := "(II)Z" } : Jvm.MethodName)) ∈ gw := gw_at 815 (by decide +kernel) (by decide +kernel)
theorem wm_816 : (Jvm.Cond.instanceMethod ({ cls := "SheGoesOut$State", name := "isWorthMore", desc := "(II)Z" } : Jvm.MethodName)) ∈ gw := gw_at 816 (by decide +kernel) (by decide +kernel)
theorem wm_817 : (Jvm.Cond.selects "SheGoesOut$State" ({ cls := "SheGoesOut$State", name := "isWorthMore", desc := "(II)Z" } : Jvm.MethodName) ({ cls := "SheGoesOut$State", name := "isWorthMore", desc := "(II)Z" } : Jvm.MethodName)) ∈ gw := gw_at 817 (by decide +kernel) (by decide +kernel)
theorem wm_818 : (Jvm.Cond.code ({ cls := "SheGoesOut$State", name := "isWorthMore", desc := "(II)Z" } : Jvm.MethodName) prog_10_method_7_code (4 : Nat) (Option.some Jvm.ClassFile.FieldType.boolean)) ∈ gw := gw_at 818 (by decide +kernel) (by decide +kernel)
theorem cv_RX11_253 : gcv RX11 253 yX8_isWorthMore cX8_isWorthMore 4 (some .boolean) 2 8 := ⟨⟨wm_815, wm_816, wm_817, wm_48, wm_818⟩, ⟨by decide, by decide, by decide +kernel⟩, ⟨_, rfl, rfl⟩⟩
theorem wm_831 : (Jvm.Cond.methodLink "SheGoesOut$Land" (51 : Nat) ({ cls := "SheGoesOut$Land", name := "rowsApart", desc := "(II)I" } : Jvm.MethodName)) ∈ gw := gw_at 831 (by decide +kernel) (by decide +kernel)
theorem cs_RX3_51 : gcs RX3 51 yX3_rowsApart cX3_rowsApart 2 (some .int) 2 := ⟨⟨wm_831, wm_776, wm_49, wm_777⟩, by decide, by decide, by decide +kernel⟩
theorem wm_832 : (Jvm.Cond.methodLink "SheGoesOut$Land" (54 : Nat) ({ cls := "SheGoesOut$Land", name := "columnsApart", desc := "(II)I" } : Jvm.MethodName)) ∈ gw := gw_at 832 (by decide +kernel) (by decide +kernel)
theorem cs_RX3_54 : gcs RX3 54 yX3_columnsApart cX3_columnsApart 2 (some .int) 2 := ⟨⟨wm_832, wm_782, wm_49, wm_783⟩, by decide, by decide, by decide +kernel⟩
theorem wm_828 : (Jvm.Cond.methodLink "SheGoesOut$Night" (99 : Nat) ({ cls := "SheGoesOut$Land", name := "isNear", desc := "(III)Z" } : Jvm.MethodName)) ∈ gw := gw_at 828 (by decide +kernel) (by decide +kernel)
theorem wm_829 : (Jvm.Cond.static ({ cls := "SheGoesOut$Land", name := "isNear", desc := "(III)Z" } : Jvm.MethodName)) ∈ gw := gw_at 829 (by decide +kernel) (by decide +kernel)
theorem wm_830 : (Jvm.Cond.code ({ cls := "SheGoesOut$Land", name := "isNear", desc := "(III)Z" } : Jvm.MethodName) prog_5_method_14_code (3 : Nat) (Option.some Jvm.ClassFile.FieldType.boolean)) ∈ gw := gw_at 830 (by decide +kernel) (by decide +kernel)
theorem cs_RX6_99 : gcs RX6 99 yX3_isNear cX3_isNear 3 (some .boolean) 3 := ⟨⟨wm_828, wm_829, wm_49, wm_830⟩, by decide, by decide, by decide +kernel⟩
theorem wm_824 : (Jvm.Cond.methodLink "SheGoesOut" (257 : Nat) ({ cls := "SheGoesOut$Night", name := "doubtFarther", desc := "(III)V" } : Jvm.MethodName)) ∈ gw := gw_at 824 (by decide +kernel) (by decide +kernel)
theorem wm_825 : (Jvm.Cond.instanceMethod ({ cls := "SheGoesOut$Night", name := "doubtFarther", desc := "(III)V" } : Jvm.MethodName)) ∈ gw := gw_at 825 (by decide +kernel) (by decide +kernel)
theorem wm_826 : (Jvm.Cond.selects "SheGoesOut$Night" ({ cls := "SheGoesOut$Night", name := "doubtFarther", desc := "(III)V" } : Jvm.MethodName) ({ cls := "SheGoesOut$Night", name := "doubtFarther", desc := "(III)V" } : Jvm.MethodName)) ∈ gw := gw_at 826 (by decide +kernel) (by decide +kernel)
theorem wm_827 : (Jvm.Cond.code ({ cls := "SheGoesOut$Night", name := "doubtFarther", desc := "(III)V" } : Jvm.MethodName) prog_8_method_16_code (7 : Nat) (Option.none : Option Jvm.ClassFile.FieldType)) ∈ gw := gw_at 827 (by decide +kernel) (by decide +kernel)
theorem cv_RX11_257 : gcv RX11 257 yX6_doubtFarther cX6_doubtFarther 7 none 3 6 := ⟨⟨wm_824, wm_825, wm_826, wm_51, wm_827⟩, ⟨by decide, by decide, by decide +kernel⟩, ⟨_, rfl, rfl⟩⟩
theorem wm_837 : (Jvm.Cond.methodLink "SheGoesOut" (261 : Nat) ({ cls := "SheGoesOut$Night", name := "near", desc := "(II)J" } : Jvm.MethodName)) ∈ gw := gw_at 837 (by decide +kernel) (by decide +kernel)
theorem wm_838 : (Jvm.Cond.instanceMethod ({ cls := "SheGoesOut$Night", name := "near", desc := "(II)J" } : Jvm.MethodName)) ∈ gw := gw_at 838 (by decide +kernel) (by decide +kernel)
theorem wm_839 : (Jvm.Cond.selects "SheGoesOut$Night" ({ cls := "SheGoesOut$Night", name := "near", desc := "(II)J" } : Jvm.MethodName) ({ cls := "SheGoesOut$Night", name := "near", desc := "(II)J" } : Jvm.MethodName)) ∈ gw := gw_at 839 (by decide +kernel) (by decide +kernel)
theorem wm_840 : (Jvm.Cond.code ({ cls := "SheGoesOut$Night", name := "near", desc := "(II)J" } : Jvm.MethodName) prog_8_method_17_code (6 : Nat) (Option.some Jvm.ClassFile.FieldType.long)) ∈ gw := gw_at 840 (by decide +kernel) (by decide +kernel)
theorem cv_RX11_261 : gcv RX11 261 yX6_near cX6_near 6 (some .long) 2 6 := ⟨⟨wm_837, wm_838, wm_839, wm_51, wm_840⟩, ⟨by decide, by decide, by decide +kernel⟩, ⟨_, rfl, rfl⟩⟩
theorem wm_841 : (Jvm.Cond.constantLong "SheGoesOut" (264 : Nat) (144 : Int64)) ∈ gw := gw_at 841 (by decide +kernel) (by decide +kernel)
theorem wm_845 : (Jvm.Cond.methodLink "SheGoesOut$Land" (57 : Nat) ({ cls := "SheGoesOut$Land", name := "isNear", desc := "(III)Z" } : Jvm.MethodName)) ∈ gw := gw_at 845 (by decide +kernel) (by decide +kernel)
theorem cs_RX3_57 : gcs RX3 57 yX3_isNear cX3_isNear 3 (some .boolean) 3 := ⟨⟨wm_845, wm_829, wm_49, wm_830⟩, by decide, by decide, by decide +kernel⟩
theorem wm_842 : (Jvm.Cond.methodLink "SheGoesOut" (266 : Nat) ({ cls := "SheGoesOut$Land", name := "cellsNear", desc := "(II)I" } : Jvm.MethodName)) ∈ gw := gw_at 842 (by decide +kernel) (by decide +kernel)
theorem wm_843 : (Jvm.Cond.static ({ cls := "SheGoesOut$Land", name := "cellsNear", desc := "(II)I" } : Jvm.MethodName)) ∈ gw := gw_at 843 (by decide +kernel) (by decide +kernel)
theorem wm_844 : (Jvm.Cond.code ({ cls := "SheGoesOut$Land", name := "cellsNear", desc := "(II)I" } : Jvm.MethodName) prog_5_method_15_code (4 : Nat) (Option.some Jvm.ClassFile.FieldType.int)) ∈ gw := gw_at 844 (by decide +kernel) (by decide +kernel)
theorem cs_RX11_266 : gcs RX11 266 yX3_cellsNear cX3_cellsNear 4 (some .int) 2 := ⟨⟨wm_842, wm_843, wm_49, wm_844⟩, by decide, by decide, by decide +kernel⟩
theorem wm_206 : (Jvm.Cond.fieldLink "SheGoesOut$Jobs" (27 : Nat) "SheGoesOut$Jobs" "count" "I") ∈ gw := gw_at 206 (by decide +kernel) (by decide +kernel)
theorem fk_RX2_27 : gfk RX2 27 2 5 := ⟨RX2, TX2, 7, rfl, inW_X2, by decide, wm_206⟩
theorem wm_200 : (Jvm.Cond.fieldLink "SheGoesOut$Jobs" (11 : Nat) "SheGoesOut$Jobs" "cells" "[I") ∈ gw := gw_at 200 (by decide +kernel) (by decide +kernel)
theorem fk_RX2_11 : gfk RX2 11 2 0 := ⟨RX2, TX2, 7, rfl, inW_X2, by decide, wm_200⟩
theorem clC_23 : shC[23]? = some (.inr (0, 6)) := rfl
theorem wm_201 : (Jvm.Cond.fieldLink "SheGoesOut$Jobs" (15 : Nat) "SheGoesOut$Jobs" "sorts" "[I") ∈ gw := gw_at 201 (by decide +kernel) (by decide +kernel)
theorem fk_RX2_15 : gfk RX2 15 2 1 := ⟨RX2, TX2, 7, rfl, inW_X2, by decide, wm_201⟩
theorem clC_24 : shC[24]? = some (.inr (0, 6)) := rfl
theorem wm_202 : (Jvm.Cond.fieldLink "SheGoesOut$Jobs" (18 : Nat) "SheGoesOut$Jobs" "minutes" "[I") ∈ gw := gw_at 202 (by decide +kernel) (by decide +kernel)
theorem fk_RX2_18 : gfk RX2 18 2 2 := ⟨RX2, TX2, 7, rfl, inW_X2, by decide, wm_202⟩
theorem clC_25 : shC[25]? = some (.inr (0, 6)) := rfl
theorem fp_RX2_27 : gfp RX2 27 2 5 .int := ⟨RX2, TX2, 7, tyX2, rfl, inW_X2, by decide, wm_206, tyX2_ok, nmX2, rfl, rfl⟩
theorem wm_850 : (Jvm.Cond.methodLink "SheGoesOut" (270 : Nat) ({ cls := "SheGoesOut$Jobs", name := "add", desc := "(III)I" } : Jvm.MethodName)) ∈ gw := gw_at 850 (by decide +kernel) (by decide +kernel)
theorem wm_851 : (Jvm.Cond.instanceMethod ({ cls := "SheGoesOut$Jobs", name := "add", desc := "(III)I" } : Jvm.MethodName)) ∈ gw := gw_at 851 (by decide +kernel) (by decide +kernel)
theorem wm_852 : (Jvm.Cond.selects "SheGoesOut$Jobs" ({ cls := "SheGoesOut$Jobs", name := "add", desc := "(III)I" } : Jvm.MethodName) ({ cls := "SheGoesOut$Jobs", name := "add", desc := "(III)I" } : Jvm.MethodName)) ∈ gw := gw_at 852 (by decide +kernel) (by decide +kernel)
theorem wm_53 : (Jvm.Cond.initialized "SheGoesOut$Jobs") ∈ gw := gw_at 53 (by decide +kernel) (by decide +kernel)
theorem wm_853 : (Jvm.Cond.code ({ cls := "SheGoesOut$Jobs", name := "add", desc := "(III)I" } : Jvm.MethodName) prog_4_method_4_code (4 : Nat) (Option.some Jvm.ClassFile.FieldType.int)) ∈ gw := gw_at 853 (by decide +kernel) (by decide +kernel)
theorem cv_RX11_270 : gcv RX11 270 yX2_add cX2_add 4 (some .int) 3 2 := ⟨⟨wm_850, wm_851, wm_852, wm_53, wm_853⟩, ⟨by decide, by decide, by decide +kernel⟩, ⟨_, rfl, rfl⟩⟩
theorem wm_862 : (Jvm.Cond.constantLong "SheGoesOut$Jobs" (41 : Nat) (-1 : Int64)) ∈ gw := gw_at 862 (by decide +kernel) (by decide +kernel)
theorem wm_208 : (Jvm.Cond.fieldLink "SheGoesOut$Jobs" (31 : Nat) "SheGoesOut$Jobs" "most" "J") ∈ gw := gw_at 208 (by decide +kernel) (by decide +kernel)
theorem fp_RX2_31 : gfp RX2 31 2 6 .long := ⟨RX2, TX2, 7, tyX2, rfl, inW_X2, by decide, wm_208, tyX2_ok, nmX2, rfl, rfl⟩
theorem wm_269 : (Jvm.Cond.fieldLink "SheGoesOut$Jobs" (43 : Nat) "SheGoesOut$State" "night" "LSheGoesOut$Night;") ∈ gw := gw_at 269 (by decide +kernel) (by decide +kernel)
theorem fk_RX2_43 : gfk RX2 43 8 2 := ⟨RX8, TX8, 7, rfl, inW_X8, by decide, wm_269⟩
theorem wm_137 : (Jvm.Cond.fieldLink "SheGoesOut$Jobs" (49 : Nat) "SheGoesOut$Night" "minute" "I") ∈ gw := gw_at 137 (by decide +kernel) (by decide +kernel)
theorem fk_RX2_49 : gfk RX2 49 6 4 := ⟨RX6, TX6, 5, rfl, inW_X6, by decide, wm_137⟩
theorem wm_203 : (Jvm.Cond.fieldLink "SheGoesOut$Jobs" (21 : Nat) "SheGoesOut$Jobs" "tried" "[I") ∈ gw := gw_at 203 (by decide +kernel) (by decide +kernel)
theorem fk_RX2_21 : gfk RX2 21 2 3 := ⟨RX2, TX2, 7, rfl, inW_X2, by decide, wm_203⟩
theorem clC_26 : shC[26]? = some (.inr (0, 6)) := rfl
theorem wm_868 : (Jvm.Cond.methodLink "SheGoesOut$Jobs" (58 : Nat) ({ cls := "SheGoesOut$State", name := "worth", desc := "(IIII)J" } : Jvm.MethodName)) ∈ gw := gw_at 868 (by decide +kernel) (by decide +kernel)
theorem cv_RX2_58 : gcv RX2 58 yX8_worth cX8_worth 5 (some .long) 4 8 := ⟨⟨wm_868, wm_785, wm_786, wm_48, wm_787⟩, ⟨by decide, by decide, by decide +kernel⟩, ⟨_, rfl, rfl⟩⟩
theorem wm_863 : (Jvm.Cond.methodLink "SheGoesOut$Jobs" (54 : Nat) ({ cls := "SheGoesOut$Jobs", name := "line", desc := "(LSheGoesOut$State;IIIJ)V" } : Jvm.MethodName)) ∈ gw := gw_at 863 (by decide +kernel) (by decide +kernel)
theorem wm_865 : (Jvm.Cond.instanceMethod ({ cls := "SheGoesOut$Jobs", name := "line", desc := "(LSheGoesOut$State;IIIJ)V" } : Jvm.MethodName)) ∈ gw := gw_at 865 (by decide +kernel) (by decide +kernel)
theorem wm_14 : (Jvm.Cond.selects "SheGoesOut$Jobs" ({ cls := "SheGoesOut$Jobs", name := "line", desc := "(LSheGoesOut$State;IIIJ)V" } : Jvm.MethodName) ({ cls := "SheGoesOut$Jobs", name := "line", desc := "(LSheGoesOut$State;IIIJ)V" } : Jvm.MethodName)) ∈ gw := gw_at 14 (by decide +kernel) (by decide +kernel)
theorem wm_866 : (Jvm.Cond.code ({ cls := "SheGoesOut$Jobs", name := "line", desc := "(LSheGoesOut$State;IIIJ)V" } : Jvm.MethodName) prog_4_method_6_code (9 : Nat) (Option.none : Option Jvm.ClassFile.FieldType)) ∈ gw := gw_at 866 (by decide +kernel) (by decide +kernel)
theorem cv_RX2_54 : gcv RX2 54 yX2_line cX2_line 9 none 5 2 := ⟨⟨wm_863, wm_865, wm_14, wm_53, wm_866⟩, ⟨by decide, by decide, by decide +kernel⟩, ⟨_, rfl, rfl⟩⟩
theorem fk_RX2_31 : gfk RX2 31 2 6 := ⟨RX2, TX2, 7, rfl, inW_X2, by decide, wm_208⟩
theorem wm_204 : (Jvm.Cond.fieldLink "SheGoesOut$Jobs" (24 : Nat) "SheGoesOut$Jobs" "chosen" "[I") ∈ gw := gw_at 204 (by decide +kernel) (by decide +kernel)
theorem fk_RX2_24 : gfk RX2 24 2 4 := ⟨RX2, TX2, 7, rfl, inW_X2, by decide, wm_204⟩
theorem wm_867 : (Jvm.Cond.methodLink "SheGoesOut$Jobs" (35 : Nat) ({ cls := "java/lang/System", name := "arraycopy", desc := "(Ljava/lang/Object;ILjava/lang/Object;II)V" } : Jvm.MethodName)) ∈ gw := gw_at 867 (by decide +kernel) (by decide +kernel)
theorem clC_27 : shC[27]? = some (.inr (0, 6)) := rfl
theorem wm_858 : (Jvm.Cond.methodLink "SheGoesOut" (273 : Nat) ({ cls := "SheGoesOut$Jobs", name := "choose", desc := "(LSheGoesOut$State;)V" } : Jvm.MethodName)) ∈ gw := gw_at 858 (by decide +kernel) (by decide +kernel)
theorem wm_859 : (Jvm.Cond.instanceMethod ({ cls := "SheGoesOut$Jobs", name := "choose", desc := "(LSheGoesOut$State;)V" } : Jvm.MethodName)) ∈ gw := gw_at 859 (by decide +kernel) (by decide +kernel)
theorem wm_860 : (Jvm.Cond.selects "SheGoesOut$Jobs" ({ cls := "SheGoesOut$Jobs", name := "choose", desc := "(LSheGoesOut$State;)V" } : Jvm.MethodName) ({ cls := "SheGoesOut$Jobs", name := "choose", desc := "(LSheGoesOut$State;)V" } : Jvm.MethodName)) ∈ gw := gw_at 860 (by decide +kernel) (by decide +kernel)
theorem wm_861 : (Jvm.Cond.code ({ cls := "SheGoesOut$Jobs", name := "choose", desc := "(LSheGoesOut$State;)V" } : Jvm.MethodName) prog_4_method_5_code (2 : Nat) (Option.none : Option Jvm.ClassFile.FieldType)) ∈ gw := gw_at 861 (by decide +kernel) (by decide +kernel)
theorem cv_RX11_273 : gcv RX11 273 yX2_choose cX2_choose 2 none 1 2 := ⟨⟨wm_858, wm_859, wm_860, wm_53, wm_861⟩, ⟨by decide, by decide, by decide +kernel⟩, ⟨_, rfl, rfl⟩⟩
theorem wm_205 : (Jvm.Cond.fieldLink "SheGoesOut" (275 : Nat) "SheGoesOut$Jobs" "chosen" "[I") ∈ gw := gw_at 205 (by decide +kernel) (by decide +kernel)
theorem fk_RX11_275 : gfk RX11 275 2 4 := ⟨RX2, TX2, 7, rfl, inW_X2, by decide, wm_205⟩
theorem wm_209 : (Jvm.Cond.fieldLink "SheGoesOut" (274 : Nat) "SheGoesOut$Jobs" "most" "J") ∈ gw := gw_at 209 (by decide +kernel) (by decide +kernel)
theorem fk_RX11_274 : gfk RX11 274 2 6 := ⟨RX2, TX2, 7, rfl, inW_X2, by decide, wm_209⟩
theorem wm_876 : (Jvm.Cond.constantLong "SheGoesOut$Book" (31 : Nat) (4 : Int64)) ∈ gw := gw_at 876 (by decide +kernel) (by decide +kernel)
theorem wm_877 : (Jvm.Cond.constantLong "SheGoesOut$Book" (33 : Nat) (99 : Int64)) ∈ gw := gw_at 877 (by decide +kernel) (by decide +kernel)
theorem wm_878 : (Jvm.Cond.constantLong "SheGoesOut$Book" (35 : Nat) (8 : Int64)) ∈ gw := gw_at 878 (by decide +kernel) (by decide +kernel)
theorem wm_873 : (Jvm.Cond.methodLink "SheGoesOut" (276 : Nat) ({ cls := "SheGoesOut$Book", name := "isAsTold", desc := "(JJJ)Z" } : Jvm.MethodName)) ∈ gw := gw_at 873 (by decide +kernel) (by decide +kernel)
theorem wm_874 : (Jvm.Cond.static ({ cls := "SheGoesOut$Book", name := "isAsTold", desc := "(JJJ)Z" } : Jvm.MethodName)) ∈ gw := gw_at 874 (by decide +kernel) (by decide +kernel)
theorem wm_54 : (Jvm.Cond.initialized "SheGoesOut$Book") ∈ gw := gw_at 54 (by decide +kernel) (by decide +kernel)
theorem wm_875 : (Jvm.Cond.code ({ cls := "SheGoesOut$Book", name := "isAsTold", desc := "(JJJ)Z" } : Jvm.MethodName) prog_2_method_3_code (6 : Nat) (Option.some Jvm.ClassFile.FieldType.boolean)) ∈ gw := gw_at 875 (by decide +kernel) (by decide +kernel)
theorem cs_RX11_276 : gcs RX11 276 yX0_isAsTold cX0_isAsTold 6 (some .boolean) 3 := ⟨⟨wm_873, wm_874, wm_54, wm_875⟩, by decide, by decide, by decide +kernel⟩
theorem wm_234 : (Jvm.Cond.fieldLink "SheGoesOut$Book" (21 : Nat) "SheGoesOut$Book" "count" "I") ∈ gw := gw_at 234 (by decide +kernel) (by decide +kernel)
theorem fk_RX0_21 : gfk RX0 21 0 3 := ⟨RX0, TX0, 4, rfl, inW_X0, by decide, wm_234⟩
theorem wm_231 : (Jvm.Cond.fieldLink "SheGoesOut$Book" (11 : Nat) "SheGoesOut$Book" "ages" "[I") ∈ gw := gw_at 231 (by decide +kernel) (by decide +kernel)
theorem fk_RX0_11 : gfk RX0 11 0 0 := ⟨RX0, TX0, 4, rfl, inW_X0, by decide, wm_231⟩
theorem clC_29 : shC[29]? = some (.inr (0, 60)) := rfl
theorem wm_232 : (Jvm.Cond.fieldLink "SheGoesOut$Book" (15 : Nat) "SheGoesOut$Book" "fars" "[I") ∈ gw := gw_at 232 (by decide +kernel) (by decide +kernel)
theorem fk_RX0_15 : gfk RX0 15 0 1 := ⟨RX0, TX0, 4, rfl, inW_X0, by decide, wm_232⟩
theorem clC_30 : shC[30]? = some (.inr (0, 60)) := rfl
theorem wm_233 : (Jvm.Cond.fieldLink "SheGoesOut$Book" (18 : Nat) "SheGoesOut$Book" "kinds" "[I") ∈ gw := gw_at 233 (by decide +kernel) (by decide +kernel)
theorem fk_RX0_18 : gfk RX0 18 0 2 := ⟨RX0, TX0, 4, rfl, inW_X0, by decide, wm_233⟩
theorem clC_31 : shC[31]? = some (.inr (0, 60)) := rfl
theorem fp_RX0_21 : gfp RX0 21 0 3 .int := ⟨RX0, TX0, 4, tyX0, rfl, inW_X0, by decide, wm_234, tyX0_ok, nmX0, rfl, rfl⟩
theorem wm_879 : (Jvm.Cond.methodLink "SheGoesOut" (280 : Nat) ({ cls := "SheGoesOut$Book", name := "add", desc := "(III)I" } : Jvm.MethodName)) ∈ gw := gw_at 879 (by decide +kernel) (by decide +kernel)
theorem wm_880 : (Jvm.Cond.instanceMethod ({ cls := "SheGoesOut$Book", name := "add", desc := "(III)I" } : Jvm.MethodName)) ∈ gw := gw_at 880 (by decide +kernel) (by decide +kernel)
theorem wm_881 : (Jvm.Cond.selects "SheGoesOut$Book" ({ cls := "SheGoesOut$Book", name := "add", desc := "(III)I" } : Jvm.MethodName) ({ cls := "SheGoesOut$Book", name := "add", desc := "(III)I" } : Jvm.MethodName)) ∈ gw := gw_at 881 (by decide +kernel) (by decide +kernel)
theorem wm_882 : (Jvm.Cond.code ({ cls := "SheGoesOut$Book", name := "add", desc := "(III)I" } : Jvm.MethodName) prog_2_method_5_code (4 : Nat) (Option.some Jvm.ClassFile.FieldType.int)) ∈ gw := gw_at 882 (by decide +kernel) (by decide +kernel)
theorem cv_RX11_280 : gcv RX11 280 yX0_add cX0_add 4 (some .int) 3 0 := ⟨⟨wm_879, wm_880, wm_881, wm_54, wm_882⟩, ⟨by decide, by decide, by decide +kernel⟩, ⟨_, rfl, rfl⟩⟩
theorem wm_887 : (Jvm.Cond.methodLink "SheGoesOut" (281 : Nat) ({ cls := "SheGoesOut$Book", name := "ofKind", desc := "(I)I" } : Jvm.MethodName)) ∈ gw := gw_at 887 (by decide +kernel) (by decide +kernel)
theorem wm_888 : (Jvm.Cond.instanceMethod ({ cls := "SheGoesOut$Book", name := "ofKind", desc := "(I)I" } : Jvm.MethodName)) ∈ gw := gw_at 888 (by decide +kernel) (by decide +kernel)
theorem wm_889 : (Jvm.Cond.selects "SheGoesOut$Book" ({ cls := "SheGoesOut$Book", name := "ofKind", desc := "(I)I" } : Jvm.MethodName) ({ cls := "SheGoesOut$Book", name := "ofKind", desc := "(I)I" } : Jvm.MethodName)) ∈ gw := gw_at 889 (by decide +kernel) (by decide +kernel)
theorem wm_890 : (Jvm.Cond.code ({ cls := "SheGoesOut$Book", name := "ofKind", desc := "(I)I" } : Jvm.MethodName) prog_2_method_6_code (4 : Nat) (Option.some Jvm.ClassFile.FieldType.int)) ∈ gw := gw_at 890 (by decide +kernel) (by decide +kernel)
theorem cv_RX11_281 : gcv RX11 281 yX0_ofKind cX0_ofKind 4 (some .int) 1 0 := ⟨⟨wm_887, wm_888, wm_889, wm_54, wm_890⟩, ⟨by decide, by decide, by decide +kernel⟩, ⟨_, rfl, rfl⟩⟩
theorem kb_99 : (Int8.ofInt (99)).toInt32 = (99 : Int32) := by decide
theorem wm_899 : (Jvm.Cond.methodLink "SheGoesOut$Book" (37 : Nat) ({ cls := "SheGoesOut$Book", name := "within", desc := "(II)I" } : Jvm.MethodName)) ∈ gw := gw_at 899 (by decide +kernel) (by decide +kernel)
theorem wm_901 : (Jvm.Cond.instanceMethod ({ cls := "SheGoesOut$Book", name := "within", desc := "(II)I" } : Jvm.MethodName)) ∈ gw := gw_at 901 (by decide +kernel) (by decide +kernel)
theorem wm_15 : (Jvm.Cond.selects "SheGoesOut$Book" ({ cls := "SheGoesOut$Book", name := "within", desc := "(II)I" } : Jvm.MethodName) ({ cls := "SheGoesOut$Book", name := "within", desc := "(II)I" } : Jvm.MethodName)) ∈ gw := gw_at 15 (by decide +kernel) (by decide +kernel)
theorem wm_902 : (Jvm.Cond.code ({ cls := "SheGoesOut$Book", name := "within", desc := "(II)I" } : Jvm.MethodName) prog_2_method_7_code (5 : Nat) (Option.some Jvm.ClassFile.FieldType.int)) ∈ gw := gw_at 902 (by decide +kernel) (by decide +kernel)
theorem cv_RX0_37 : gcv RX0 37 yX0_within cX0_within 5 (some .int) 2 0 := ⟨⟨wm_899, wm_901, wm_15, wm_54, wm_902⟩, ⟨by decide, by decide, by decide +kernel⟩, ⟨_, rfl, rfl⟩⟩
theorem wm_903 : (Jvm.Cond.methodLink "SheGoesOut$Book" (41 : Nat) ({ cls := "SheGoesOut$Book", name := "quarters", desc := "(II)I" } : Jvm.MethodName)) ∈ gw := gw_at 903 (by decide +kernel) (by decide +kernel)
theorem wm_904 : (Jvm.Cond.static ({ cls := "SheGoesOut$Book", name := "quarters", desc := "(II)I" } : Jvm.MethodName)) ∈ gw := gw_at 904 (by decide +kernel) (by decide +kernel)
theorem wm_905 : (Jvm.Cond.code ({ cls := "SheGoesOut$Book", name := "quarters", desc := "(II)I" } : Jvm.MethodName) prog_2_method_8_code (2 : Nat) (Option.some Jvm.ClassFile.FieldType.int)) ∈ gw := gw_at 905 (by decide +kernel) (by decide +kernel)
theorem cs_RX0_41 : gcs RX0 41 yX0_quarters cX0_quarters 2 (some .int) 2 := ⟨⟨wm_903, wm_904, wm_54, wm_905⟩, by decide, by decide, by decide +kernel⟩
theorem wm_895 : (Jvm.Cond.methodLink "SheGoesOut" (284 : Nat) ({ cls := "SheGoesOut$Book", name := "reach", desc := "(II)I" } : Jvm.MethodName)) ∈ gw := gw_at 895 (by decide +kernel) (by decide +kernel)
theorem wm_896 : (Jvm.Cond.instanceMethod ({ cls := "SheGoesOut$Book", name := "reach", desc := "(II)I" } : Jvm.MethodName)) ∈ gw := gw_at 896 (by decide +kernel) (by decide +kernel)
theorem wm_897 : (Jvm.Cond.selects "SheGoesOut$Book" ({ cls := "SheGoesOut$Book", name := "reach", desc := "(II)I" } : Jvm.MethodName) ({ cls := "SheGoesOut$Book", name := "reach", desc := "(II)I" } : Jvm.MethodName)) ∈ gw := gw_at 897 (by decide +kernel) (by decide +kernel)
theorem wm_898 : (Jvm.Cond.code ({ cls := "SheGoesOut$Book", name := "reach", desc := "(II)I" } : Jvm.MethodName) prog_2_method_9_code (5 : Nat) (Option.some Jvm.ClassFile.FieldType.int)) ∈ gw := gw_at 898 (by decide +kernel) (by decide +kernel)
theorem cv_RX11_284 : gcv RX11 284 yX0_reach cX0_reach 5 (some .int) 2 0 := ⟨⟨wm_895, wm_896, wm_897, wm_54, wm_898⟩, ⟨by decide, by decide, by decide +kernel⟩, ⟨_, rfl, rfl⟩⟩
theorem wm_910 : (Jvm.Cond.methodLink "SheGoesOut" (287 : Nat) ({ cls := "SheGoesOut$Book", name := "heldUp", desc := "()I" } : Jvm.MethodName)) ∈ gw := gw_at 910 (by decide +kernel) (by decide +kernel)
theorem wm_911 : (Jvm.Cond.instanceMethod ({ cls := "SheGoesOut$Book", name := "heldUp", desc := "()I" } : Jvm.MethodName)) ∈ gw := gw_at 911 (by decide +kernel) (by decide +kernel)
theorem wm_912 : (Jvm.Cond.selects "SheGoesOut$Book" ({ cls := "SheGoesOut$Book", name := "heldUp", desc := "()I" } : Jvm.MethodName) ({ cls := "SheGoesOut$Book", name := "heldUp", desc := "()I" } : Jvm.MethodName)) ∈ gw := gw_at 912 (by decide +kernel) (by decide +kernel)
theorem wm_913 : (Jvm.Cond.code ({ cls := "SheGoesOut$Book", name := "heldUp", desc := "()I" } : Jvm.MethodName) prog_2_method_10_code (4 : Nat) (Option.some Jvm.ClassFile.FieldType.int)) ∈ gw := gw_at 913 (by decide +kernel) (by decide +kernel)
theorem cv_RX11_287 : gcv RX11 287 yX0_heldUp cX0_heldUp 4 (some .int) 0 0 := ⟨⟨wm_910, wm_911, wm_912, wm_54, wm_913⟩, ⟨by decide, by decide, by decide +kernel⟩, ⟨_, rfl, rfl⟩⟩
theorem wm_253 : (Jvm.Cond.fieldLink "SheGoesOut$Door" (18 : Nat) "SheGoesOut$Door" "count" "I") ∈ gw := gw_at 253 (by decide +kernel) (by decide +kernel)
theorem fk_RX1_18 : gfk RX1 18 1 2 := ⟨RX1, TX1, 3, rfl, inW_X1, by decide, wm_253⟩
theorem wm_251 : (Jvm.Cond.fieldLink "SheGoesOut$Door" (11 : Nat) "SheGoesOut$Door" "keeps" "[I") ∈ gw := gw_at 251 (by decide +kernel) (by decide +kernel)
theorem fk_RX1_11 : gfk RX1 11 1 0 := ⟨RX1, TX1, 3, rfl, inW_X1, by decide, wm_251⟩
theorem clC_33 : shC[33]? = some (.inr (0, 8)) := rfl
theorem wm_252 : (Jvm.Cond.fieldLink "SheGoesOut$Door" (15 : Nat) "SheGoesOut$Door" "shuts" "[I") ∈ gw := gw_at 252 (by decide +kernel) (by decide +kernel)
theorem fk_RX1_15 : gfk RX1 15 1 1 := ⟨RX1, TX1, 3, rfl, inW_X1, by decide, wm_252⟩
theorem clC_34 : shC[34]? = some (.inr (0, 8)) := rfl
theorem fp_RX1_18 : gfp RX1 18 1 2 .int := ⟨RX1, TX1, 3, tyX1, rfl, inW_X1, by decide, wm_253, tyX1_ok, nmX1, rfl, rfl⟩
theorem wm_918 : (Jvm.Cond.methodLink "SheGoesOut" (290 : Nat) ({ cls := "SheGoesOut$Door", name := "add", desc := "(II)I" } : Jvm.MethodName)) ∈ gw := gw_at 918 (by decide +kernel) (by decide +kernel)
theorem wm_919 : (Jvm.Cond.instanceMethod ({ cls := "SheGoesOut$Door", name := "add", desc := "(II)I" } : Jvm.MethodName)) ∈ gw := gw_at 919 (by decide +kernel) (by decide +kernel)
theorem wm_920 : (Jvm.Cond.selects "SheGoesOut$Door" ({ cls := "SheGoesOut$Door", name := "add", desc := "(II)I" } : Jvm.MethodName) ({ cls := "SheGoesOut$Door", name := "add", desc := "(II)I" } : Jvm.MethodName)) ∈ gw := gw_at 920 (by decide +kernel) (by decide +kernel)
theorem wm_55 : (Jvm.Cond.initialized "SheGoesOut$Door") ∈ gw := gw_at 55 (by decide +kernel) (by decide +kernel)
theorem wm_921 : (Jvm.Cond.code ({ cls := "SheGoesOut$Door", name := "add", desc := "(II)I" } : Jvm.MethodName) prog_3_method_4_code (3 : Nat) (Option.some Jvm.ClassFile.FieldType.int)) ∈ gw := gw_at 921 (by decide +kernel) (by decide +kernel)
theorem cv_RX11_290 : gcv RX11 290 yX1_add cX1_add 3 (some .int) 2 1 := ⟨⟨wm_918, wm_919, wm_920, wm_55, wm_921⟩, ⟨by decide, by decide, by decide +kernel⟩, ⟨_, rfl, rfl⟩⟩
theorem wm_926 : (Jvm.Cond.methodLink "SheGoesOut" (292 : Nat) ({ cls := "SheGoesOut$Door", name := "isSet", desc := "(I)Z" } : Jvm.MethodName)) ∈ gw := gw_at 926 (by decide +kernel) (by decide +kernel)
theorem wm_927 : (Jvm.Cond.instanceMethod ({ cls := "SheGoesOut$Door", name := "isSet", desc := "(I)Z" } : Jvm.MethodName)) ∈ gw := gw_at 927 (by decide +kernel) (by decide +kernel)
theorem wm_928 : (Jvm.Cond.selects "SheGoesOut$Door" ({ cls := "SheGoesOut$Door", name := "isSet", desc := "(I)Z" } : Jvm.MethodName) ({ cls := "SheGoesOut$Door", name := "isSet", desc := "(I)Z" } : Jvm.MethodName)) ∈ gw := gw_at 928 (by decide +kernel) (by decide +kernel)
theorem wm_929 : (Jvm.Cond.code ({ cls := "SheGoesOut$Door", name := "isSet", desc := "(I)Z" } : Jvm.MethodName) prog_3_method_5_code (2 : Nat) (Option.some Jvm.ClassFile.FieldType.boolean)) ∈ gw := gw_at 929 (by decide +kernel) (by decide +kernel)
theorem cv_RX11_292 : gcv RX11 292 yX1_isSet cX1_isSet 2 (some .boolean) 1 1 := ⟨⟨wm_926, wm_927, wm_928, wm_55, wm_929⟩, ⟨by decide, by decide, by decide +kernel⟩, ⟨_, rfl, rfl⟩⟩
theorem wm_930 : (Jvm.Cond.methodLink "SheGoesOut" (295 : Nat) ({ cls := "SheGoesOut$Door", name := "left", desc := "(I)J" } : Jvm.MethodName)) ∈ gw := gw_at 930 (by decide +kernel) (by decide +kernel)
theorem wm_931 : (Jvm.Cond.instanceMethod ({ cls := "SheGoesOut$Door", name := "left", desc := "(I)J" } : Jvm.MethodName)) ∈ gw := gw_at 931 (by decide +kernel) (by decide +kernel)
theorem wm_932 : (Jvm.Cond.selects "SheGoesOut$Door" ({ cls := "SheGoesOut$Door", name := "left", desc := "(I)J" } : Jvm.MethodName) ({ cls := "SheGoesOut$Door", name := "left", desc := "(I)J" } : Jvm.MethodName)) ∈ gw := gw_at 932 (by decide +kernel) (by decide +kernel)
theorem wm_933 : (Jvm.Cond.code ({ cls := "SheGoesOut$Door", name := "left", desc := "(I)J" } : Jvm.MethodName) prog_3_method_6_code (5 : Nat) (Option.some Jvm.ClassFile.FieldType.long)) ∈ gw := gw_at 933 (by decide +kernel) (by decide +kernel)
theorem cv_RX11_295 : gcv RX11 295 yX1_left cX1_left 5 (some .long) 1 1 := ⟨⟨wm_930, wm_931, wm_932, wm_55, wm_933⟩, ⟨by decide, by decide, by decide +kernel⟩, ⟨_, rfl, rfl⟩⟩
theorem wm_941 : (Jvm.Cond.constant "java/lang/Integer" (265 : Nat) (1431655765 : Int32)) ∈ gw := gw_at 941 (by decide +kernel) (by decide +kernel)
theorem wm_942 : (Jvm.Cond.constant "java/lang/Integer" (266 : Nat) (858993459 : Int32)) ∈ gw := gw_at 942 (by decide +kernel) (by decide +kernel)
theorem wm_943 : (Jvm.Cond.constant "java/lang/Integer" (267 : Nat) (252645135 : Int32)) ∈ gw := gw_at 943 (by decide +kernel) (by decide +kernel)
theorem kb_63 : (Int8.ofInt (63)).toInt32 = (63 : Int32) := by decide
theorem wm_938 : (Jvm.Cond.methodLink "SheGoesOut$Door" (28 : Nat) ({ cls := "java/lang/Integer", name := "bitCount", desc := "(I)I" } : Jvm.MethodName)) ∈ gw := gw_at 938 (by decide +kernel) (by decide +kernel)
theorem wm_939 : (Jvm.Cond.static ({ cls := "java/lang/Integer", name := "bitCount", desc := "(I)I" } : Jvm.MethodName)) ∈ gw := gw_at 939 (by decide +kernel) (by decide +kernel)
theorem wm_68 : (Jvm.Cond.initialized "java/lang/Integer") ∈ gw := gw_at 68 (by decide +kernel) (by decide +kernel)
theorem wm_940 : (Jvm.Cond.code ({ cls := "java/lang/Integer", name := "bitCount", desc := "(I)I" } : Jvm.MethodName) prog_16_method_49_code (1 : Nat) (Option.some Jvm.ClassFile.FieldType.int)) ∈ gw := gw_at 940 (by decide +kernel) (by decide +kernel)
theorem cs_RX1_28 : gcs RX1 28 yJ6_bitCount_0f7a4 cJ6_bitCount_0f7a4 1 (some .int) 1 := ⟨⟨wm_938, wm_939, wm_68, wm_940⟩, by decide, by decide, by decide +kernel⟩
theorem wm_934 : (Jvm.Cond.methodLink "SheGoesOut" (298 : Nat) ({ cls := "SheGoesOut$Door", name := "whole", desc := "(I)J" } : Jvm.MethodName)) ∈ gw := gw_at 934 (by decide +kernel) (by decide +kernel)
theorem wm_935 : (Jvm.Cond.instanceMethod ({ cls := "SheGoesOut$Door", name := "whole", desc := "(I)J" } : Jvm.MethodName)) ∈ gw := gw_at 935 (by decide +kernel) (by decide +kernel)
theorem wm_936 : (Jvm.Cond.selects "SheGoesOut$Door" ({ cls := "SheGoesOut$Door", name := "whole", desc := "(I)J" } : Jvm.MethodName) ({ cls := "SheGoesOut$Door", name := "whole", desc := "(I)J" } : Jvm.MethodName)) ∈ gw := gw_at 936 (by decide +kernel) (by decide +kernel)
theorem wm_937 : (Jvm.Cond.code ({ cls := "SheGoesOut$Door", name := "whole", desc := "(I)J" } : Jvm.MethodName) prog_3_method_7_code (2 : Nat) (Option.some Jvm.ClassFile.FieldType.long)) ∈ gw := gw_at 937 (by decide +kernel) (by decide +kernel)
theorem cv_RX11_298 : gcv RX11 298 yX1_whole cX1_whole 2 (some .long) 1 1 := ⟨⟨wm_934, wm_935, wm_936, wm_55, wm_937⟩, ⟨by decide, by decide, by decide +kernel⟩, ⟨_, rfl, rfl⟩⟩
theorem wm_952 : (Jvm.Cond.methodLink "SheGoesOut$Door" (34 : Nat) ({ cls := "SheGoesOut$Door", name := "left", desc := "(I)J" } : Jvm.MethodName)) ∈ gw := gw_at 952 (by decide +kernel) (by decide +kernel)
theorem cv_RX1_34 : gcv RX1 34 yX1_left cX1_left 5 (some .long) 1 1 := ⟨⟨wm_952, wm_931, wm_932, wm_55, wm_933⟩, ⟨by decide, by decide, by decide +kernel⟩, ⟨_, rfl, rfl⟩⟩
theorem wm_953 : (Jvm.Cond.constantLong "SheGoesOut$Door" (38 : Nat) (16 : Int64)) ∈ gw := gw_at 953 (by decide +kernel) (by decide +kernel)
theorem wm_954 : (Jvm.Cond.methodLink "SheGoesOut$Door" (40 : Nat) ({ cls := "SheGoesOut$Door", name := "whole", desc := "(I)J" } : Jvm.MethodName)) ∈ gw := gw_at 954 (by decide +kernel) (by decide +kernel)
theorem cv_RX1_40 : gcv RX1 40 yX1_whole cX1_whole 2 (some .long) 1 1 := ⟨⟨wm_954, wm_935, wm_936, wm_55, wm_937⟩, ⟨by decide, by decide, by decide +kernel⟩, ⟨_, rfl, rfl⟩⟩
theorem wm_955 : (Jvm.Cond.methodLink "SheGoesOut$Door" (43 : Nat) ({ cls := "SheGoesOut$Door", name := "shutIn", desc := "(I)I" } : Jvm.MethodName)) ∈ gw := gw_at 955 (by decide +kernel) (by decide +kernel)
theorem wm_956 : (Jvm.Cond.instanceMethod ({ cls := "SheGoesOut$Door", name := "shutIn", desc := "(I)I" } : Jvm.MethodName)) ∈ gw := gw_at 956 (by decide +kernel) (by decide +kernel)
theorem wm_957 : (Jvm.Cond.selects "SheGoesOut$Door" ({ cls := "SheGoesOut$Door", name := "shutIn", desc := "(I)I" } : Jvm.MethodName) ({ cls := "SheGoesOut$Door", name := "shutIn", desc := "(I)I" } : Jvm.MethodName)) ∈ gw := gw_at 957 (by decide +kernel) (by decide +kernel)
theorem wm_958 : (Jvm.Cond.code ({ cls := "SheGoesOut$Door", name := "shutIn", desc := "(I)I" } : Jvm.MethodName) prog_3_method_8_code (4 : Nat) (Option.some Jvm.ClassFile.FieldType.int)) ∈ gw := gw_at 958 (by decide +kernel) (by decide +kernel)
theorem cv_RX1_43 : gcv RX1 43 yX1_shutIn cX1_shutIn 4 (some .int) 1 1 := ⟨⟨wm_955, wm_956, wm_957, wm_55, wm_958⟩, ⟨by decide, by decide, by decide +kernel⟩, ⟨_, rfl, rfl⟩⟩
theorem wm_948 : (Jvm.Cond.methodLink "SheGoesOut" (301 : Nat) ({ cls := "SheGoesOut$Door", name := "mildest", desc := "(I)I" } : Jvm.MethodName)) ∈ gw := gw_at 948 (by decide +kernel) (by decide +kernel)
theorem wm_949 : (Jvm.Cond.instanceMethod ({ cls := "SheGoesOut$Door", name := "mildest", desc := "(I)I" } : Jvm.MethodName)) ∈ gw := gw_at 949 (by decide +kernel) (by decide +kernel)
theorem wm_950 : (Jvm.Cond.selects "SheGoesOut$Door" ({ cls := "SheGoesOut$Door", name := "mildest", desc := "(I)I" } : Jvm.MethodName) ({ cls := "SheGoesOut$Door", name := "mildest", desc := "(I)I" } : Jvm.MethodName)) ∈ gw := gw_at 950 (by decide +kernel) (by decide +kernel)
theorem wm_951 : (Jvm.Cond.code ({ cls := "SheGoesOut$Door", name := "mildest", desc := "(I)I" } : Jvm.MethodName) prog_3_method_9_code (4 : Nat) (Option.some Jvm.ClassFile.FieldType.int)) ∈ gw := gw_at 951 (by decide +kernel) (by decide +kernel)
theorem cv_RX11_301 : gcv RX11 301 yX1_mildest cX1_mildest 4 (some .int) 1 1 := ⟨⟨wm_948, wm_949, wm_950, wm_55, wm_951⟩, ⟨by decide, by decide, by decide +kernel⟩, ⟨_, rfl, rfl⟩⟩
theorem wm_959 : (Jvm.Cond.methodLink "SheGoesOut" (304 : Nat) ({ cls := "SheGoesOut$Door", name := "shutIn", desc := "(I)I" } : Jvm.MethodName)) ∈ gw := gw_at 959 (by decide +kernel) (by decide +kernel)
theorem cv_RX11_304 : gcv RX11 304 yX1_shutIn cX1_shutIn 4 (some .int) 1 1 := ⟨⟨wm_959, wm_956, wm_957, wm_55, wm_958⟩, ⟨by decide, by decide, by decide +kernel⟩, ⟨_, rfl, rfl⟩⟩
theorem wm_357 : (Jvm.Cond.fieldLink "SheGoesOut" (22 : Nat) "SheGoesOut" "net" "LSheGoesOut$Net;") ∈ gw := gw_at 357 (by decide +kernel) (by decide +kernel)
theorem fk_RX11_22 : gfk RX11 22 11 2 := ⟨RX11, TX11, 7, rfl, inW_X11, by decide, wm_357⟩
theorem wm_263 : (Jvm.Cond.fieldLink "SheGoesOut$Net" (35 : Nat) "SheGoesOut$State" "land" "LSheGoesOut$Land;") ∈ gw := gw_at 263 (by decide +kernel) (by decide +kernel)
theorem fk_RX5_35 : gfk RX5 35 8 0 := ⟨RX8, TX8, 7, rfl, inW_X8, by decide, wm_263⟩
theorem inW_X5 : ∀ w ∈ u_ws RX5 TX5 7, w ∈ gw := gw_ps _ [310, 312, 314, 316, 318, 320, 322] (by decide +kernel) (by decide +kernel)
theorem wm_302 : (Jvm.Cond.fieldLink "SheGoesOut$Net" (15 : Nat) "SheGoesOut$Net" "houseCount" "I") ∈ gw := gw_at 302 (by decide +kernel) (by decide +kernel)
theorem fk_RX5_15 : gfk RX5 15 5 1 := ⟨RX5, TX5, 7, rfl, inW_X5, by decide, wm_302⟩
theorem clC_69 : shC[69]? = some (.inl (5, [72, 0, 73, 74, 0, 75, 1])) := rfl
theorem wm_92 : (Jvm.Cond.fieldLink "SheGoesOut$Net" (61 : Nat) "SheGoesOut$Land" "kinds" "[I") ∈ gw := gw_at 92 (by decide +kernel) (by decide +kernel)
theorem fk_RX5_61 : gfk RX5 61 3 0 := ⟨RX3, TX3, 3, rfl, inW_X3, by decide, wm_92⟩
theorem wm_301 : (Jvm.Cond.fieldLink "SheGoesOut$Net" (11 : Nat) "SheGoesOut$Net" "houses" "[I") ∈ gw := gw_at 301 (by decide +kernel) (by decide +kernel)
theorem fk_RX5_11 : gfk RX5 11 5 0 := ⟨RX5, TX5, 7, rfl, inW_X5, by decide, wm_301⟩
theorem fp_RX5_15 : gfp RX5 15 5 1 .int := ⟨RX5, TX5, 7, tyX5, rfl, inW_X5, by decide, wm_302, tyX5_ok, nmX5, rfl, rfl⟩
theorem clC_70 : shC[70]? = some (.inr (0, 10)) := rfl
theorem wm_968 : (Jvm.Cond.methodLink "SheGoesOut$Net" (41 : Nat) ({ cls := "SheGoesOut$Net", name := "findHouses", desc := "(LSheGoesOut$Land;)V" } : Jvm.MethodName)) ∈ gw := gw_at 968 (by decide +kernel) (by decide +kernel)
theorem wm_970 : (Jvm.Cond.instanceMethod ({ cls := "SheGoesOut$Net", name := "findHouses", desc := "(LSheGoesOut$Land;)V" } : Jvm.MethodName)) ∈ gw := gw_at 970 (by decide +kernel) (by decide +kernel)
theorem wm_16 : (Jvm.Cond.selects "SheGoesOut$Net" ({ cls := "SheGoesOut$Net", name := "findHouses", desc := "(LSheGoesOut$Land;)V" } : Jvm.MethodName) ({ cls := "SheGoesOut$Net", name := "findHouses", desc := "(LSheGoesOut$Land;)V" } : Jvm.MethodName)) ∈ gw := gw_at 16 (by decide +kernel) (by decide +kernel)
theorem wm_56 : (Jvm.Cond.initialized "SheGoesOut$Net") ∈ gw := gw_at 56 (by decide +kernel) (by decide +kernel)
theorem wm_971 : (Jvm.Cond.code ({ cls := "SheGoesOut$Net", name := "findHouses", desc := "(LSheGoesOut$Land;)V" } : Jvm.MethodName) prog_7_method_3_code (3 : Nat) (Option.none : Option Jvm.ClassFile.FieldType)) ∈ gw := gw_at 971 (by decide +kernel) (by decide +kernel)
theorem cv_RX5_41 : gcv RX5 41 yX5_findHouses cX5_findHouses 3 none 1 5 := ⟨⟨wm_968, wm_970, wm_16, wm_56, wm_971⟩, ⟨by decide, by decide, by decide +kernel⟩, ⟨_, rfl, rfl⟩⟩
theorem wm_972 : (Jvm.Cond.methodLink "SheGoesOut$Net" (45 : Nat) ({ cls := "java/lang/Math", name := "min", desc := "(II)I" } : Jvm.MethodName)) ∈ gw := gw_at 972 (by decide +kernel) (by decide +kernel)
theorem wm_305 : (Jvm.Cond.fieldLink "SheGoesOut$Net" (25 : Nat) "SheGoesOut$Net" "wanted" "I") ∈ gw := gw_at 305 (by decide +kernel) (by decide +kernel)
theorem fp_RX5_25 : gfp RX5 25 5 4 .int := ⟨RX5, TX5, 7, tyX5, rfl, inW_X5, by decide, wm_305, tyX5_ok, nmX5, rfl, rfl⟩
theorem wm_973 : (Jvm.Cond.constantLong "SheGoesOut$Net" (51 : Nat) (-1 : Int64)) ∈ gw := gw_at 973 (by decide +kernel) (by decide +kernel)
theorem wm_308 : (Jvm.Cond.fieldLink "SheGoesOut$Net" (31 : Nat) "SheGoesOut$Net" "most" "J") ∈ gw := gw_at 308 (by decide +kernel) (by decide +kernel)
theorem fp_RX5_31 : gfp RX5 31 5 6 .long := ⟨RX5, TX5, 7, tyX5, rfl, inW_X5, by decide, wm_308, tyX5_ok, nmX5, rfl, rfl⟩
theorem wm_268 : (Jvm.Cond.fieldLink "SheGoesOut$Net" (53 : Nat) "SheGoesOut$State" "night" "LSheGoesOut$Night;") ∈ gw := gw_at 268 (by decide +kernel) (by decide +kernel)
theorem fk_RX5_53 : gfk RX5 53 8 2 := ⟨RX8, TX8, 7, rfl, inW_X8, by decide, wm_268⟩
theorem wm_304 : (Jvm.Cond.fieldLink "SheGoesOut$Net" (22 : Nat) "SheGoesOut$Net" "tried" "[I") ∈ gw := gw_at 304 (by decide +kernel) (by decide +kernel)
theorem fk_RX5_22 : gfk RX5 22 5 3 := ⟨RX5, TX5, 7, rfl, inW_X5, by decide, wm_304⟩
theorem clC_72 : shC[72]? = some (.inr (0, 4)) := rfl
theorem cn_RX3_41 : gcn RX3 41 yX11_isIn "SheGoesOut" cX11_isIn 3 (some .boolean) 3 := ⟨⟨List.mem_of_getElem? (i := 12) rfl, wm_385, wm_47, wm_386⟩, by decide, by decide, by decide +kernel⟩
theorem wm_983 : (Jvm.Cond.methodLink "SheGoesOut$Net" (80 : Nat) ({ cls := "SheGoesOut$Land", name := "neighbour", desc := "(II)I" } : Jvm.MethodName)) ∈ gw := gw_at 983 (by decide +kernel) (by decide +kernel)
theorem wm_984 : (Jvm.Cond.static ({ cls := "SheGoesOut$Land", name := "neighbour", desc := "(II)I" } : Jvm.MethodName)) ∈ gw := gw_at 984 (by decide +kernel) (by decide +kernel)
theorem wm_985 : (Jvm.Cond.code ({ cls := "SheGoesOut$Land", name := "neighbour", desc := "(II)I" } : Jvm.MethodName) prog_5_method_11_code (4 : Nat) (Option.some Jvm.ClassFile.FieldType.int)) ∈ gw := gw_at 985 (by decide +kernel) (by decide +kernel)
theorem cs_RX5_80 : gcs RX5 80 yX3_neighbour cX3_neighbour 4 (some .int) 2 := ⟨⟨wm_983, wm_984, wm_49, wm_985⟩, by decide, by decide, by decide +kernel⟩
theorem wm_303 : (Jvm.Cond.fieldLink "SheGoesOut$Net" (19 : Nat) "SheGoesOut$Net" "ears" "[I") ∈ gw := gw_at 303 (by decide +kernel) (by decide +kernel)
theorem fk_RX5_19 : gfk RX5 19 5 2 := ⟨RX5, TX5, 7, rfl, inW_X5, by decide, wm_303⟩
theorem clC_71 : shC[71]? = some (.inr (0, 144)) := rfl
theorem wm_987 : (Jvm.Cond.methodLink "SheGoesOut$Net" (83 : Nat) ({ cls := "SheGoesOut$Night", name := "together", desc := "(I)J" } : Jvm.MethodName)) ∈ gw := gw_at 987 (by decide +kernel) (by decide +kernel)
theorem cv_RX5_83 : gcv RX5 83 yX6_together cX6_together 5 (some .long) 1 6 := ⟨⟨wm_987, wm_605, wm_606, wm_51, wm_607⟩, ⟨by decide, by decide, by decide +kernel⟩, ⟨_, rfl, rfl⟩⟩
theorem wm_979 : (Jvm.Cond.methodLink "SheGoesOut$Net" (72 : Nat) ({ cls := "SheGoesOut$Net", name := "hear", desc := "(LSheGoesOut$Night;I)J" } : Jvm.MethodName)) ∈ gw := gw_at 979 (by decide +kernel) (by decide +kernel)
theorem wm_981 : (Jvm.Cond.instanceMethod ({ cls := "SheGoesOut$Net", name := "hear", desc := "(LSheGoesOut$Night;I)J" } : Jvm.MethodName)) ∈ gw := gw_at 981 (by decide +kernel) (by decide +kernel)
theorem wm_18 : (Jvm.Cond.selects "SheGoesOut$Net" ({ cls := "SheGoesOut$Net", name := "hear", desc := "(LSheGoesOut$Night;I)J" } : Jvm.MethodName) ({ cls := "SheGoesOut$Net", name := "hear", desc := "(LSheGoesOut$Night;I)J" } : Jvm.MethodName)) ∈ gw := gw_at 18 (by decide +kernel) (by decide +kernel)
theorem wm_982 : (Jvm.Cond.code ({ cls := "SheGoesOut$Net", name := "hear", desc := "(LSheGoesOut$Night;I)J" } : Jvm.MethodName) prog_7_method_5_code (7 : Nat) (Option.some Jvm.ClassFile.FieldType.long)) ∈ gw := gw_at 982 (by decide +kernel) (by decide +kernel)
theorem cv_RX5_72 : gcv RX5 72 yX5_hear cX5_hear 7 (some .long) 2 5 := ⟨⟨wm_979, wm_981, wm_18, wm_56, wm_982⟩, ⟨by decide, by decide, by decide +kernel⟩, ⟨_, rfl, rfl⟩⟩
theorem wm_974 : (Jvm.Cond.methodLink "SheGoesOut$Net" (57 : Nat) ({ cls := "SheGoesOut$Net", name := "tell", desc := "(LSheGoesOut$Night;IIJ)V" } : Jvm.MethodName)) ∈ gw := gw_at 974 (by decide +kernel) (by decide +kernel)
theorem wm_976 : (Jvm.Cond.instanceMethod ({ cls := "SheGoesOut$Net", name := "tell", desc := "(LSheGoesOut$Night;IIJ)V" } : Jvm.MethodName)) ∈ gw := gw_at 976 (by decide +kernel) (by decide +kernel)
theorem wm_17 : (Jvm.Cond.selects "SheGoesOut$Net" ({ cls := "SheGoesOut$Net", name := "tell", desc := "(LSheGoesOut$Night;IIJ)V" } : Jvm.MethodName) ({ cls := "SheGoesOut$Net", name := "tell", desc := "(LSheGoesOut$Night;IIJ)V" } : Jvm.MethodName)) ∈ gw := gw_at 17 (by decide +kernel) (by decide +kernel)
theorem wm_977 : (Jvm.Cond.code ({ cls := "SheGoesOut$Net", name := "tell", desc := "(LSheGoesOut$Night;IIJ)V" } : Jvm.MethodName) prog_7_method_4_code (9 : Nat) (Option.none : Option Jvm.ClassFile.FieldType)) ∈ gw := gw_at 977 (by decide +kernel) (by decide +kernel)
theorem cv_RX5_57 : gcv RX5 57 yX5_tell cX5_tell 9 none 4 5 := ⟨⟨wm_974, wm_976, wm_17, wm_56, wm_977⟩, ⟨by decide, by decide, by decide +kernel⟩, ⟨_, rfl, rfl⟩⟩
theorem wm_988 : (Jvm.Cond.methodLink "SheGoesOut$Net" (76 : Nat) ({ cls := "SheGoesOut$Net", name := "forget", desc := "(I)V" } : Jvm.MethodName)) ∈ gw := gw_at 988 (by decide +kernel) (by decide +kernel)
theorem wm_990 : (Jvm.Cond.instanceMethod ({ cls := "SheGoesOut$Net", name := "forget", desc := "(I)V" } : Jvm.MethodName)) ∈ gw := gw_at 990 (by decide +kernel) (by decide +kernel)
theorem wm_19 : (Jvm.Cond.selects "SheGoesOut$Net" ({ cls := "SheGoesOut$Net", name := "forget", desc := "(I)V" } : Jvm.MethodName) ({ cls := "SheGoesOut$Net", name := "forget", desc := "(I)V" } : Jvm.MethodName)) ∈ gw := gw_at 19 (by decide +kernel) (by decide +kernel)
theorem wm_991 : (Jvm.Cond.code ({ cls := "SheGoesOut$Net", name := "forget", desc := "(I)V" } : Jvm.MethodName) prog_7_method_6_code (4 : Nat) (Option.none : Option Jvm.ClassFile.FieldType)) ∈ gw := gw_at 991 (by decide +kernel) (by decide +kernel)
theorem cv_RX5_76 : gcv RX5 76 yX5_forget cX5_forget 4 none 1 5 := ⟨⟨wm_988, wm_990, wm_19, wm_56, wm_991⟩, ⟨by decide, by decide, by decide +kernel⟩, ⟨_, rfl, rfl⟩⟩
theorem fk_RX5_25 : gfk RX5 25 5 4 := ⟨RX5, TX5, 7, rfl, inW_X5, by decide, wm_305⟩
theorem fk_RX5_31 : gfk RX5 31 5 6 := ⟨RX5, TX5, 7, rfl, inW_X5, by decide, wm_308⟩
theorem wm_306 : (Jvm.Cond.fieldLink "SheGoesOut$Net" (28 : Nat) "SheGoesOut$Net" "chosen" "[I") ∈ gw := gw_at 306 (by decide +kernel) (by decide +kernel)
theorem fk_RX5_28 : gfk RX5 28 5 5 := ⟨RX5, TX5, 7, rfl, inW_X5, by decide, wm_306⟩
theorem wm_978 : (Jvm.Cond.methodLink "SheGoesOut$Net" (66 : Nat) ({ cls := "java/lang/System", name := "arraycopy", desc := "(Ljava/lang/Object;ILjava/lang/Object;II)V" } : Jvm.MethodName)) ∈ gw := gw_at 978 (by decide +kernel) (by decide +kernel)
theorem clC_73 : shC[73]? = some (.inr (0, 4)) := rfl
theorem wm_964 : (Jvm.Cond.methodLink "SheGoesOut" (307 : Nat) ({ cls := "SheGoesOut$Net", name := "choose", desc := "(LSheGoesOut$State;I)V" } : Jvm.MethodName)) ∈ gw := gw_at 964 (by decide +kernel) (by decide +kernel)
theorem wm_965 : (Jvm.Cond.instanceMethod ({ cls := "SheGoesOut$Net", name := "choose", desc := "(LSheGoesOut$State;I)V" } : Jvm.MethodName)) ∈ gw := gw_at 965 (by decide +kernel) (by decide +kernel)
theorem wm_966 : (Jvm.Cond.selects "SheGoesOut$Net" ({ cls := "SheGoesOut$Net", name := "choose", desc := "(LSheGoesOut$State;I)V" } : Jvm.MethodName) ({ cls := "SheGoesOut$Net", name := "choose", desc := "(LSheGoesOut$State;I)V" } : Jvm.MethodName)) ∈ gw := gw_at 966 (by decide +kernel) (by decide +kernel)
theorem wm_967 : (Jvm.Cond.code ({ cls := "SheGoesOut$Net", name := "choose", desc := "(LSheGoesOut$State;I)V" } : Jvm.MethodName) prog_7_method_2_code (3 : Nat) (Option.none : Option Jvm.ClassFile.FieldType)) ∈ gw := gw_at 967 (by decide +kernel) (by decide +kernel)
theorem cv_RX11_307 : gcv RX11 307 yX5_choose cX5_choose 3 none 2 5 := ⟨⟨wm_964, wm_965, wm_966, wm_56, wm_967⟩, ⟨by decide, by decide, by decide +kernel⟩, ⟨_, rfl, rfl⟩⟩
theorem wm_307 : (Jvm.Cond.fieldLink "SheGoesOut" (311 : Nat) "SheGoesOut$Net" "chosen" "[I") ∈ gw := gw_at 307 (by decide +kernel) (by decide +kernel)
theorem fk_RX11_311 : gfk RX11 311 5 5 := ⟨RX5, TX5, 7, rfl, inW_X5, by decide, wm_307⟩
theorem wm_309 : (Jvm.Cond.fieldLink "SheGoesOut" (310 : Nat) "SheGoesOut$Net" "most" "J") ∈ gw := gw_at 309 (by decide +kernel) (by decide +kernel)
theorem fk_RX11_310 : gfk RX11 310 5 6 := ⟨RX5, TX5, 7, rfl, inW_X5, by decide, wm_309⟩
theorem wm_996 : (Jvm.Cond.methodLink "SheGoesOut" (312 : Nat) ({ cls := "SheGoesOut$Teams", name := "empty", desc := "()I" } : Jvm.MethodName)) ∈ gw := gw_at 996 (by decide +kernel) (by decide +kernel)
theorem wm_997 : (Jvm.Cond.instanceMethod ({ cls := "SheGoesOut$Teams", name := "empty", desc := "()I" } : Jvm.MethodName)) ∈ gw := gw_at 997 (by decide +kernel) (by decide +kernel)
theorem wm_998 : (Jvm.Cond.selects "SheGoesOut$Teams" ({ cls := "SheGoesOut$Teams", name := "empty", desc := "()I" } : Jvm.MethodName) ({ cls := "SheGoesOut$Teams", name := "empty", desc := "()I" } : Jvm.MethodName)) ∈ gw := gw_at 998 (by decide +kernel) (by decide +kernel)
theorem wm_999 : (Jvm.Cond.code ({ cls := "SheGoesOut$Teams", name := "empty", desc := "()I" } : Jvm.MethodName) prog_12_method_3_code (2 : Nat) (Option.some Jvm.ClassFile.FieldType.int)) ∈ gw := gw_at 999 (by decide +kernel) (by decide +kernel)
theorem cv_RX11_312 : gcv RX11 312 yX10_empty cX10_empty 2 (some .int) 0 10 := ⟨⟨wm_996, wm_997, wm_998, wm_52, wm_999⟩, ⟨by decide, by decide, by decide +kernel⟩, ⟨_, rfl, rfl⟩⟩
theorem wm_1000 : (Jvm.Cond.methodLink "SheGoesOut" (315 : Nat) ({ cls := "SheGoesOut$Jobs", name := "empty", desc := "()I" } : Jvm.MethodName)) ∈ gw := gw_at 1000 (by decide +kernel) (by decide +kernel)
theorem wm_1001 : (Jvm.Cond.instanceMethod ({ cls := "SheGoesOut$Jobs", name := "empty", desc := "()I" } : Jvm.MethodName)) ∈ gw := gw_at 1001 (by decide +kernel) (by decide +kernel)
theorem wm_1002 : (Jvm.Cond.selects "SheGoesOut$Jobs" ({ cls := "SheGoesOut$Jobs", name := "empty", desc := "()I" } : Jvm.MethodName) ({ cls := "SheGoesOut$Jobs", name := "empty", desc := "()I" } : Jvm.MethodName)) ∈ gw := gw_at 1002 (by decide +kernel) (by decide +kernel)
theorem wm_1003 : (Jvm.Cond.code ({ cls := "SheGoesOut$Jobs", name := "empty", desc := "()I" } : Jvm.MethodName) prog_4_method_3_code (2 : Nat) (Option.some Jvm.ClassFile.FieldType.int)) ∈ gw := gw_at 1003 (by decide +kernel) (by decide +kernel)
theorem cv_RX11_315 : gcv RX11 315 yX2_empty cX2_empty 2 (some .int) 0 2 := ⟨⟨wm_1000, wm_1001, wm_1002, wm_53, wm_1003⟩, ⟨by decide, by decide, by decide +kernel⟩, ⟨_, rfl, rfl⟩⟩
theorem wm_1004 : (Jvm.Cond.methodLink "SheGoesOut" (316 : Nat) ({ cls := "SheGoesOut$Door", name := "empty", desc := "()I" } : Jvm.MethodName)) ∈ gw := gw_at 1004 (by decide +kernel) (by decide +kernel)
theorem wm_1005 : (Jvm.Cond.instanceMethod ({ cls := "SheGoesOut$Door", name := "empty", desc := "()I" } : Jvm.MethodName)) ∈ gw := gw_at 1005 (by decide +kernel) (by decide +kernel)
theorem wm_1006 : (Jvm.Cond.selects "SheGoesOut$Door" ({ cls := "SheGoesOut$Door", name := "empty", desc := "()I" } : Jvm.MethodName) ({ cls := "SheGoesOut$Door", name := "empty", desc := "()I" } : Jvm.MethodName)) ∈ gw := gw_at 1006 (by decide +kernel) (by decide +kernel)
theorem wm_1007 : (Jvm.Cond.code ({ cls := "SheGoesOut$Door", name := "empty", desc := "()I" } : Jvm.MethodName) prog_3_method_3_code (2 : Nat) (Option.some Jvm.ClassFile.FieldType.int)) ∈ gw := gw_at 1007 (by decide +kernel) (by decide +kernel)
theorem cv_RX11_316 : gcv RX11 316 yX1_empty cX1_empty 2 (some .int) 0 1 := ⟨⟨wm_1004, wm_1005, wm_1006, wm_55, wm_1007⟩, ⟨by decide, by decide, by decide +kernel⟩, ⟨_, rfl, rfl⟩⟩
theorem wm_1008 : (Jvm.Cond.methodLink "SheGoesOut" (317 : Nat) ({ cls := "SheGoesOut$Book", name := "empty", desc := "()I" } : Jvm.MethodName)) ∈ gw := gw_at 1008 (by decide +kernel) (by decide +kernel)
theorem wm_1009 : (Jvm.Cond.instanceMethod ({ cls := "SheGoesOut$Book", name := "empty", desc := "()I" } : Jvm.MethodName)) ∈ gw := gw_at 1009 (by decide +kernel) (by decide +kernel)
theorem wm_1010 : (Jvm.Cond.selects "SheGoesOut$Book" ({ cls := "SheGoesOut$Book", name := "empty", desc := "()I" } : Jvm.MethodName) ({ cls := "SheGoesOut$Book", name := "empty", desc := "()I" } : Jvm.MethodName)) ∈ gw := gw_at 1010 (by decide +kernel) (by decide +kernel)
theorem wm_1011 : (Jvm.Cond.code ({ cls := "SheGoesOut$Book", name := "empty", desc := "()I" } : Jvm.MethodName) prog_2_method_4_code (2 : Nat) (Option.some Jvm.ClassFile.FieldType.int)) ∈ gw := gw_at 1011 (by decide +kernel) (by decide +kernel)
theorem cv_RX11_317 : gcv RX11 317 yX0_empty cX0_empty 2 (some .int) 0 0 := ⟨⟨wm_1008, wm_1009, wm_1010, wm_54, wm_1011⟩, ⟨by decide, by decide, by decide +kernel⟩, ⟨_, rfl, rfl⟩⟩
theorem wm_356 : (Jvm.Cond.fieldLink "SheGoesOut" (16 : Nat) "SheGoesOut" "kept" "LSheGoesOut$State;") ∈ gw := gw_at 356 (by decide +kernel) (by decide +kernel)
theorem fk_RX11_16 : gfk RX11 16 11 1 := ⟨RX11, TX11, 7, rfl, inW_X11, by decide, wm_356⟩
theorem clC_35 : shC[35]? = some (.inl (8, [38, 42, 45, 50, 58, 64, 68])) := rfl
theorem clC_36 : shC[36]? = some (.inl (3, [39, 40, 41])) := rfl
theorem wm_1024 : (Jvm.Cond.methodLink "SheGoesOut$Land" (21 : Nat) ({ cls := "java/lang/System", name := "arraycopy", desc := "(Ljava/lang/Object;ILjava/lang/Object;II)V" } : Jvm.MethodName)) ∈ gw := gw_at 1024 (by decide +kernel) (by decide +kernel)
theorem clC_37 : shC[37]? = some (.inr (0, 144)) := rfl
theorem clC_38 : shC[38]? = some (.inr (0, 144)) := rfl
theorem clC_39 : shC[39]? = some (.inr (0, 144)) := rfl
theorem wm_1020 : (Jvm.Cond.methodLink "SheGoesOut$State" (60 : Nat) ({ cls := "SheGoesOut$Land", name := "become", desc := "(LSheGoesOut$Land;)V" } : Jvm.MethodName)) ∈ gw := gw_at 1020 (by decide +kernel) (by decide +kernel)
theorem wm_1021 : (Jvm.Cond.instanceMethod ({ cls := "SheGoesOut$Land", name := "become", desc := "(LSheGoesOut$Land;)V" } : Jvm.MethodName)) ∈ gw := gw_at 1021 (by decide +kernel) (by decide +kernel)
theorem wm_1022 : (Jvm.Cond.selects "SheGoesOut$Land" ({ cls := "SheGoesOut$Land", name := "become", desc := "(LSheGoesOut$Land;)V" } : Jvm.MethodName) ({ cls := "SheGoesOut$Land", name := "become", desc := "(LSheGoesOut$Land;)V" } : Jvm.MethodName)) ∈ gw := gw_at 1022 (by decide +kernel) (by decide +kernel)
theorem wm_1023 : (Jvm.Cond.code ({ cls := "SheGoesOut$Land", name := "become", desc := "(LSheGoesOut$Land;)V" } : Jvm.MethodName) prog_5_method_2_code (2 : Nat) (Option.none : Option Jvm.ClassFile.FieldType)) ∈ gw := gw_at 1023 (by decide +kernel) (by decide +kernel)
theorem cv_RX8_60 : gcv RX8 60 yX3_become cX3_become 2 none 1 3 := ⟨⟨wm_1020, wm_1021, wm_1022, wm_49, wm_1023⟩, ⟨by decide, by decide, by decide +kernel⟩, ⟨_, rfl, rfl⟩⟩
theorem clC_40 : shC[40]? = some (.inl (4, [43, 44])) := rfl
theorem wm_1029 : (Jvm.Cond.methodLink "SheGoesOut$Law" (18 : Nat) ({ cls := "java/lang/System", name := "arraycopy", desc := "(Ljava/lang/Object;ILjava/lang/Object;II)V" } : Jvm.MethodName)) ∈ gw := gw_at 1029 (by decide +kernel) (by decide +kernel)
theorem clC_41 : shC[41]? = some (.inr (0, 10)) := rfl
theorem clC_42 : shC[42]? = some (.inr (0, 8)) := rfl
theorem wm_1025 : (Jvm.Cond.methodLink "SheGoesOut$State" (64 : Nat) ({ cls := "SheGoesOut$Law", name := "become", desc := "(LSheGoesOut$Law;)V" } : Jvm.MethodName)) ∈ gw := gw_at 1025 (by decide +kernel) (by decide +kernel)
theorem wm_1026 : (Jvm.Cond.instanceMethod ({ cls := "SheGoesOut$Law", name := "become", desc := "(LSheGoesOut$Law;)V" } : Jvm.MethodName)) ∈ gw := gw_at 1026 (by decide +kernel) (by decide +kernel)
theorem wm_1027 : (Jvm.Cond.selects "SheGoesOut$Law" ({ cls := "SheGoesOut$Law", name := "become", desc := "(LSheGoesOut$Law;)V" } : Jvm.MethodName) ({ cls := "SheGoesOut$Law", name := "become", desc := "(LSheGoesOut$Law;)V" } : Jvm.MethodName)) ∈ gw := gw_at 1027 (by decide +kernel) (by decide +kernel)
theorem wm_1028 : (Jvm.Cond.code ({ cls := "SheGoesOut$Law", name := "become", desc := "(LSheGoesOut$Law;)V" } : Jvm.MethodName) prog_6_method_2_code (2 : Nat) (Option.none : Option Jvm.ClassFile.FieldType)) ∈ gw := gw_at 1028 (by decide +kernel) (by decide +kernel)
theorem cv_RX8_64 : gcv RX8 64 yX4_become cX4_become 2 none 1 4 := ⟨⟨wm_1025, wm_1026, wm_1027, wm_50, wm_1028⟩, ⟨by decide, by decide, by decide +kernel⟩, ⟨_, rfl, rfl⟩⟩
theorem clC_43 : shC[43]? = some (.inl (6, [46, 47, 48, 49, 0])) := rfl
theorem clC_44 : shC[44]? = some (.inr (1, 576)) := rfl
theorem clC_45 : shC[45]? = some (.inr (1, 144)) := rfl
theorem wm_1030 : (Jvm.Cond.methodLink "SheGoesOut$State" (67 : Nat) ({ cls := "SheGoesOut$Night", name := "become", desc := "(LSheGoesOut$Night;)V" } : Jvm.MethodName)) ∈ gw := gw_at 1030 (by decide +kernel) (by decide +kernel)
theorem wm_1031 : (Jvm.Cond.instanceMethod ({ cls := "SheGoesOut$Night", name := "become", desc := "(LSheGoesOut$Night;)V" } : Jvm.MethodName)) ∈ gw := gw_at 1031 (by decide +kernel) (by decide +kernel)
theorem wm_1032 : (Jvm.Cond.selects "SheGoesOut$Night" ({ cls := "SheGoesOut$Night", name := "become", desc := "(LSheGoesOut$Night;)V" } : Jvm.MethodName) ({ cls := "SheGoesOut$Night", name := "become", desc := "(LSheGoesOut$Night;)V" } : Jvm.MethodName)) ∈ gw := gw_at 1032 (by decide +kernel) (by decide +kernel)
theorem wm_1033 : (Jvm.Cond.code ({ cls := "SheGoesOut$Night", name := "become", desc := "(LSheGoesOut$Night;)V" } : Jvm.MethodName) prog_8_method_2_code (2 : Nat) (Option.none : Option Jvm.ClassFile.FieldType)) ∈ gw := gw_at 1033 (by decide +kernel) (by decide +kernel)
theorem cv_RX8_67 : gcv RX8 67 yX6_become cX6_become 2 none 1 6 := ⟨⟨wm_1030, wm_1031, wm_1032, wm_51, wm_1033⟩, ⟨by decide, by decide, by decide +kernel⟩, ⟨_, rfl, rfl⟩⟩
theorem wm_272 : (Jvm.Cond.fieldLink "SheGoesOut$State" (35 : Nat) "SheGoesOut$State" "teams" "LSheGoesOut$Teams;") ∈ gw := gw_at 272 (by decide +kernel) (by decide +kernel)
theorem fk_RX8_35 : gfk RX8 35 8 3 := ⟨RX8, TX8, 7, rfl, inW_X8, by decide, wm_272⟩
theorem clC_48 : shC[48]? = some (.inl (10, [51, 52, 53, 54, 55, 56, 57, 0, 0, 1])) := rfl
theorem clC_49 : shC[49]? = some (.inr (0, 4)) := rfl
theorem clC_50 : shC[50]? = some (.inr (0, 4)) := rfl
theorem clC_51 : shC[51]? = some (.inr (0, 4)) := rfl
theorem clC_52 : shC[52]? = some (.inr (0, 6)) := rfl
theorem wm_1034 : (Jvm.Cond.methodLink "SheGoesOut$State" (70 : Nat) ({ cls := "SheGoesOut$Teams", name := "become", desc := "(LSheGoesOut$Teams;)V" } : Jvm.MethodName)) ∈ gw := gw_at 1034 (by decide +kernel) (by decide +kernel)
theorem wm_1035 : (Jvm.Cond.instanceMethod ({ cls := "SheGoesOut$Teams", name := "become", desc := "(LSheGoesOut$Teams;)V" } : Jvm.MethodName)) ∈ gw := gw_at 1035 (by decide +kernel) (by decide +kernel)
theorem wm_1036 : (Jvm.Cond.selects "SheGoesOut$Teams" ({ cls := "SheGoesOut$Teams", name := "become", desc := "(LSheGoesOut$Teams;)V" } : Jvm.MethodName) ({ cls := "SheGoesOut$Teams", name := "become", desc := "(LSheGoesOut$Teams;)V" } : Jvm.MethodName)) ∈ gw := gw_at 1036 (by decide +kernel) (by decide +kernel)
theorem wm_1037 : (Jvm.Cond.code ({ cls := "SheGoesOut$Teams", name := "become", desc := "(LSheGoesOut$Teams;)V" } : Jvm.MethodName) prog_12_method_2_code (2 : Nat) (Option.none : Option Jvm.ClassFile.FieldType)) ∈ gw := gw_at 1037 (by decide +kernel) (by decide +kernel)
theorem cv_RX8_70 : gcv RX8 70 yX10_become cX10_become 2 none 1 10 := ⟨⟨wm_1034, wm_1035, wm_1036, wm_52, wm_1037⟩, ⟨by decide, by decide, by decide +kernel⟩, ⟨_, rfl, rfl⟩⟩
theorem wm_274 : (Jvm.Cond.fieldLink "SheGoesOut$State" (42 : Nat) "SheGoesOut$State" "jobs" "LSheGoesOut$Jobs;") ∈ gw := gw_at 274 (by decide +kernel) (by decide +kernel)
theorem fk_RX8_42 : gfk RX8 42 8 4 := ⟨RX8, TX8, 7, rfl, inW_X8, by decide, wm_274⟩
theorem clC_56 : shC[56]? = some (.inl (2, [59, 60, 61, 62, 63, 0, 1])) := rfl
theorem clC_57 : shC[57]? = some (.inr (0, 6)) := rfl
theorem clC_58 : shC[58]? = some (.inr (0, 6)) := rfl
theorem clC_59 : shC[59]? = some (.inr (0, 6)) := rfl
theorem wm_1038 : (Jvm.Cond.methodLink "SheGoesOut$State" (73 : Nat) ({ cls := "SheGoesOut$Jobs", name := "become", desc := "(LSheGoesOut$Jobs;)V" } : Jvm.MethodName)) ∈ gw := gw_at 1038 (by decide +kernel) (by decide +kernel)
theorem wm_1039 : (Jvm.Cond.instanceMethod ({ cls := "SheGoesOut$Jobs", name := "become", desc := "(LSheGoesOut$Jobs;)V" } : Jvm.MethodName)) ∈ gw := gw_at 1039 (by decide +kernel) (by decide +kernel)
theorem wm_1040 : (Jvm.Cond.selects "SheGoesOut$Jobs" ({ cls := "SheGoesOut$Jobs", name := "become", desc := "(LSheGoesOut$Jobs;)V" } : Jvm.MethodName) ({ cls := "SheGoesOut$Jobs", name := "become", desc := "(LSheGoesOut$Jobs;)V" } : Jvm.MethodName)) ∈ gw := gw_at 1040 (by decide +kernel) (by decide +kernel)
theorem wm_1041 : (Jvm.Cond.code ({ cls := "SheGoesOut$Jobs", name := "become", desc := "(LSheGoesOut$Jobs;)V" } : Jvm.MethodName) prog_4_method_2_code (2 : Nat) (Option.none : Option Jvm.ClassFile.FieldType)) ∈ gw := gw_at 1041 (by decide +kernel) (by decide +kernel)
theorem cv_RX8_73 : gcv RX8 73 yX2_become cX2_become 2 none 1 2 := ⟨⟨wm_1038, wm_1039, wm_1040, wm_53, wm_1041⟩, ⟨by decide, by decide, by decide +kernel⟩, ⟨_, rfl, rfl⟩⟩
theorem wm_276 : (Jvm.Cond.fieldLink "SheGoesOut$State" (49 : Nat) "SheGoesOut$State" "book" "LSheGoesOut$Book;") ∈ gw := gw_at 276 (by decide +kernel) (by decide +kernel)
theorem fk_RX8_49 : gfk RX8 49 8 5 := ⟨RX8, TX8, 7, rfl, inW_X8, by decide, wm_276⟩
theorem clC_62 : shC[62]? = some (.inl (0, [65, 66, 67, 0])) := rfl
theorem wm_1046 : (Jvm.Cond.methodLink "SheGoesOut$Book" (25 : Nat) ({ cls := "java/lang/System", name := "arraycopy", desc := "(Ljava/lang/Object;ILjava/lang/Object;II)V" } : Jvm.MethodName)) ∈ gw := gw_at 1046 (by decide +kernel) (by decide +kernel)
theorem clC_63 : shC[63]? = some (.inr (0, 60)) := rfl
theorem clC_64 : shC[64]? = some (.inr (0, 60)) := rfl
theorem clC_65 : shC[65]? = some (.inr (0, 60)) := rfl
theorem wm_1042 : (Jvm.Cond.methodLink "SheGoesOut$State" (76 : Nat) ({ cls := "SheGoesOut$Book", name := "become", desc := "(LSheGoesOut$Book;)V" } : Jvm.MethodName)) ∈ gw := gw_at 1042 (by decide +kernel) (by decide +kernel)
theorem wm_1043 : (Jvm.Cond.instanceMethod ({ cls := "SheGoesOut$Book", name := "become", desc := "(LSheGoesOut$Book;)V" } : Jvm.MethodName)) ∈ gw := gw_at 1043 (by decide +kernel) (by decide +kernel)
theorem wm_1044 : (Jvm.Cond.selects "SheGoesOut$Book" ({ cls := "SheGoesOut$Book", name := "become", desc := "(LSheGoesOut$Book;)V" } : Jvm.MethodName) ({ cls := "SheGoesOut$Book", name := "become", desc := "(LSheGoesOut$Book;)V" } : Jvm.MethodName)) ∈ gw := gw_at 1044 (by decide +kernel) (by decide +kernel)
theorem wm_1045 : (Jvm.Cond.code ({ cls := "SheGoesOut$Book", name := "become", desc := "(LSheGoesOut$Book;)V" } : Jvm.MethodName) prog_2_method_2_code (2 : Nat) (Option.none : Option Jvm.ClassFile.FieldType)) ∈ gw := gw_at 1045 (by decide +kernel) (by decide +kernel)
theorem cv_RX8_76 : gcv RX8 76 yX0_become cX0_become 2 none 1 0 := ⟨⟨wm_1042, wm_1043, wm_1044, wm_54, wm_1045⟩, ⟨by decide, by decide, by decide +kernel⟩, ⟨_, rfl, rfl⟩⟩
theorem wm_278 : (Jvm.Cond.fieldLink "SheGoesOut$State" (56 : Nat) "SheGoesOut$State" "door" "LSheGoesOut$Door;") ∈ gw := gw_at 278 (by decide +kernel) (by decide +kernel)
theorem fk_RX8_56 : gfk RX8 56 8 6 := ⟨RX8, TX8, 7, rfl, inW_X8, by decide, wm_278⟩
theorem clC_66 : shC[66]? = some (.inl (1, [69, 70, 0])) := rfl
theorem wm_1051 : (Jvm.Cond.methodLink "SheGoesOut$Door" (22 : Nat) ({ cls := "java/lang/System", name := "arraycopy", desc := "(Ljava/lang/Object;ILjava/lang/Object;II)V" } : Jvm.MethodName)) ∈ gw := gw_at 1051 (by decide +kernel) (by decide +kernel)
theorem clC_67 : shC[67]? = some (.inr (0, 8)) := rfl
theorem clC_68 : shC[68]? = some (.inr (0, 8)) := rfl
theorem wm_1047 : (Jvm.Cond.methodLink "SheGoesOut$State" (79 : Nat) ({ cls := "SheGoesOut$Door", name := "become", desc := "(LSheGoesOut$Door;)V" } : Jvm.MethodName)) ∈ gw := gw_at 1047 (by decide +kernel) (by decide +kernel)
theorem wm_1048 : (Jvm.Cond.instanceMethod ({ cls := "SheGoesOut$Door", name := "become", desc := "(LSheGoesOut$Door;)V" } : Jvm.MethodName)) ∈ gw := gw_at 1048 (by decide +kernel) (by decide +kernel)
theorem wm_1049 : (Jvm.Cond.selects "SheGoesOut$Door" ({ cls := "SheGoesOut$Door", name := "become", desc := "(LSheGoesOut$Door;)V" } : Jvm.MethodName) ({ cls := "SheGoesOut$Door", name := "become", desc := "(LSheGoesOut$Door;)V" } : Jvm.MethodName)) ∈ gw := gw_at 1049 (by decide +kernel) (by decide +kernel)
theorem wm_1050 : (Jvm.Cond.code ({ cls := "SheGoesOut$Door", name := "become", desc := "(LSheGoesOut$Door;)V" } : Jvm.MethodName) prog_3_method_2_code (2 : Nat) (Option.none : Option Jvm.ClassFile.FieldType)) ∈ gw := gw_at 1050 (by decide +kernel) (by decide +kernel)
theorem cv_RX8_79 : gcv RX8 79 yX1_become cX1_become 2 none 1 1 := ⟨⟨wm_1047, wm_1048, wm_1049, wm_55, wm_1050⟩, ⟨by decide, by decide, by decide +kernel⟩, ⟨_, rfl, rfl⟩⟩
theorem wm_1016 : (Jvm.Cond.methodLink "SheGoesOut" (318 : Nat) ({ cls := "SheGoesOut$State", name := "become", desc := "(LSheGoesOut$State;)V" } : Jvm.MethodName)) ∈ gw := gw_at 1016 (by decide +kernel) (by decide +kernel)
theorem wm_1017 : (Jvm.Cond.instanceMethod ({ cls := "SheGoesOut$State", name := "become", desc := "(LSheGoesOut$State;)V" } : Jvm.MethodName)) ∈ gw := gw_at 1017 (by decide +kernel) (by decide +kernel)
theorem wm_1018 : (Jvm.Cond.selects "SheGoesOut$State" ({ cls := "SheGoesOut$State", name := "become", desc := "(LSheGoesOut$State;)V" } : Jvm.MethodName) ({ cls := "SheGoesOut$State", name := "become", desc := "(LSheGoesOut$State;)V" } : Jvm.MethodName)) ∈ gw := gw_at 1018 (by decide +kernel) (by decide +kernel)
theorem wm_1019 : (Jvm.Cond.code ({ cls := "SheGoesOut$State", name := "become", desc := "(LSheGoesOut$State;)V" } : Jvm.MethodName) prog_10_method_2_code (2 : Nat) (Option.none : Option Jvm.ClassFile.FieldType)) ∈ gw := gw_at 1019 (by decide +kernel) (by decide +kernel)
theorem cv_RX11_318 : gcv RX11 318 yX8_become cX8_become 2 none 1 8 := ⟨⟨wm_1016, wm_1017, wm_1018, wm_48, wm_1019⟩, ⟨by decide, by decide, by decide +kernel⟩, ⟨_, rfl, rfl⟩⟩
theorem wm_361 : (Jvm.Cond.fieldLink "SheGoesOut" (44 : Nat) "SheGoesOut" "imaged" "Z") ∈ gw := gw_at 361 (by decide +kernel) (by decide +kernel)
theorem fp_RX11_44 : gfp RX11 44 11 6 .boolean := ⟨RX11, TX11, 7, tyX11, rfl, inW_X11, by decide, wm_361, tyX11_ok, nmX11, rfl, rfl⟩
theorem fk_RX11_44 : gfk RX11 44 11 6 := ⟨RX11, TX11, 7, rfl, inW_X11, by decide, wm_361⟩
theorem wm_359 : (Jvm.Cond.fieldLink "SheGoesOut" (36 : Nat) "SheGoesOut" "sheets" "LSheGoesOut$Sheets;") ∈ gw := gw_at 359 (by decide +kernel) (by decide +kernel)
theorem fk_RX11_36 : gfk RX11 36 11 4 := ⟨RX11, TX11, 7, rfl, inW_X11, by decide, wm_359⟩
theorem inW_X7 : ∀ w ∈ u_ws RX7 TX7 3, w ∈ gw := gw_ps _ [348, 350, 352] (by decide +kernel) (by decide +kernel)
theorem wm_345 : (Jvm.Cond.fieldLink "SheGoesOut$Sheets" (11 : Nat) "SheGoesOut$Sheets" "items" "[J") ∈ gw := gw_at 345 (by decide +kernel) (by decide +kernel)
theorem fk_RX7_11 : gfk RX7 11 7 0 := ⟨RX7, TX7, 3, rfl, inW_X7, by decide, wm_345⟩
theorem clC_76 : shC[76]? = some (.inl (7, [79, 80, 81])) := rfl
theorem kb_24 : (Int8.ofInt (24)).toInt32 = (24 : Int32) := by decide
theorem clC_77 : shC[77]? = some (.inr (1, 96)) := rfl
theorem wm_1087 : (Jvm.Cond.methodLink "SheGoesOut" (334 : Nat) ({ cls := "SheGoesOut$Sheets", name := "at", desc := "(II)J" } : Jvm.MethodName)) ∈ gw := gw_at 1087 (by decide +kernel) (by decide +kernel)
theorem wm_1088 : (Jvm.Cond.instanceMethod ({ cls := "SheGoesOut$Sheets", name := "at", desc := "(II)J" } : Jvm.MethodName)) ∈ gw := gw_at 1088 (by decide +kernel) (by decide +kernel)
theorem wm_1089 : (Jvm.Cond.selects "SheGoesOut$Sheets" ({ cls := "SheGoesOut$Sheets", name := "at", desc := "(II)J" } : Jvm.MethodName) ({ cls := "SheGoesOut$Sheets", name := "at", desc := "(II)J" } : Jvm.MethodName)) ∈ gw := gw_at 1089 (by decide +kernel) (by decide +kernel)
theorem wm_58 : (Jvm.Cond.initialized "SheGoesOut$Sheets") ∈ gw := gw_at 58 (by decide +kernel) (by decide +kernel)
theorem wm_1090 : (Jvm.Cond.code ({ cls := "SheGoesOut$Sheets", name := "at", desc := "(II)J" } : Jvm.MethodName) prog_9_method_10_code (3 : Nat) (Option.some Jvm.ClassFile.FieldType.long)) ∈ gw := gw_at 1090 (by decide +kernel) (by decide +kernel)
theorem cv_RX11_334 : gcv RX11 334 yX7_at cX7_at 3 (some .long) 2 7 := ⟨⟨wm_1087, wm_1088, wm_1089, wm_58, wm_1090⟩, ⟨by decide, by decide, by decide +kernel⟩, ⟨_, rfl, rfl⟩⟩
theorem cn_RX7_22 : gcn RX7 22 yX11_isIn "SheGoesOut" cX11_isIn 3 (some .boolean) 3 := ⟨⟨List.mem_of_getElem? (i := 13) rfl, wm_385, wm_47, wm_386⟩, by decide, by decide, by decide +kernel⟩
theorem wm_1064 : (Jvm.Cond.methodLink "SheGoesOut" (321 : Nat) ({ cls := "SheGoesOut$Sheets", name := "isSheet", desc := "(I)Z" } : Jvm.MethodName)) ∈ gw := gw_at 1064 (by decide +kernel) (by decide +kernel)
theorem wm_1065 : (Jvm.Cond.static ({ cls := "SheGoesOut$Sheets", name := "isSheet", desc := "(I)Z" } : Jvm.MethodName)) ∈ gw := gw_at 1065 (by decide +kernel) (by decide +kernel)
theorem wm_1066 : (Jvm.Cond.code ({ cls := "SheGoesOut$Sheets", name := "isSheet", desc := "(I)Z" } : Jvm.MethodName) prog_9_method_2_code (1 : Nat) (Option.some Jvm.ClassFile.FieldType.boolean)) ∈ gw := gw_at 1066 (by decide +kernel) (by decide +kernel)
theorem cs_RX11_321 : gcs RX11 321 yX7_isSheet cX7_isSheet 1 (some .boolean) 1 := ⟨⟨wm_1064, wm_1065, wm_58, wm_1066⟩, by decide, by decide, by decide +kernel⟩
theorem wm_1068 : (Jvm.Cond.methodLink "SheGoesOut" (324 : Nat) ({ cls := "SheGoesOut$Sheets", name := "isLane", desc := "(I)Z" } : Jvm.MethodName)) ∈ gw := gw_at 1068 (by decide +kernel) (by decide +kernel)
theorem wm_1069 : (Jvm.Cond.static ({ cls := "SheGoesOut$Sheets", name := "isLane", desc := "(I)Z" } : Jvm.MethodName)) ∈ gw := gw_at 1069 (by decide +kernel) (by decide +kernel)
theorem wm_1070 : (Jvm.Cond.code ({ cls := "SheGoesOut$Sheets", name := "isLane", desc := "(I)Z" } : Jvm.MethodName) prog_9_method_3_code (1 : Nat) (Option.some Jvm.ClassFile.FieldType.boolean)) ∈ gw := gw_at 1070 (by decide +kernel) (by decide +kernel)
theorem cs_RX11_324 : gcs RX11 324 yX7_isLane cX7_isLane 1 (some .boolean) 1 := ⟨⟨wm_1068, wm_1069, wm_58, wm_1070⟩, by decide, by decide, by decide +kernel⟩
theorem wm_346 : (Jvm.Cond.fieldLink "SheGoesOut$Sheets" (15 : Nat) "SheGoesOut$Sheets" "lanes" "[I") ∈ gw := gw_at 346 (by decide +kernel) (by decide +kernel)
theorem fk_RX7_15 : gfk RX7 15 7 1 := ⟨RX7, TX7, 3, rfl, inW_X7, by decide, wm_346⟩
theorem clC_78 : shC[78]? = some (.inr (0, 4)) := rfl
theorem wm_1075 : (Jvm.Cond.methodLink "SheGoesOut$Sheets" (26 : Nat) ({ cls := "SheGoesOut$Sheets", name := "isThere", desc := "(I)Z" } : Jvm.MethodName)) ∈ gw := gw_at 1075 (by decide +kernel) (by decide +kernel)
theorem wm_1076 : (Jvm.Cond.instanceMethod ({ cls := "SheGoesOut$Sheets", name := "isThere", desc := "(I)Z" } : Jvm.MethodName)) ∈ gw := gw_at 1076 (by decide +kernel) (by decide +kernel)
theorem wm_1077 : (Jvm.Cond.selects "SheGoesOut$Sheets" ({ cls := "SheGoesOut$Sheets", name := "isThere", desc := "(I)Z" } : Jvm.MethodName) ({ cls := "SheGoesOut$Sheets", name := "isThere", desc := "(I)Z" } : Jvm.MethodName)) ∈ gw := gw_at 1077 (by decide +kernel) (by decide +kernel)
theorem wm_1078 : (Jvm.Cond.code ({ cls := "SheGoesOut$Sheets", name := "isThere", desc := "(I)Z" } : Jvm.MethodName) prog_9_method_4_code (2 : Nat) (Option.some Jvm.ClassFile.FieldType.boolean)) ∈ gw := gw_at 1078 (by decide +kernel) (by decide +kernel)
theorem cv_RX7_26 : gcv RX7 26 yX7_isThere cX7_isThere 2 (some .boolean) 1 7 := ⟨⟨wm_1075, wm_1076, wm_1077, wm_58, wm_1078⟩, ⟨by decide, by decide, by decide +kernel⟩, ⟨_, rfl, rfl⟩⟩
theorem wm_347 : (Jvm.Cond.fieldLink "SheGoesOut$Sheets" (19 : Nat) "SheGoesOut$Sheets" "sizes" "[I") ∈ gw := gw_at 347 (by decide +kernel) (by decide +kernel)
theorem fk_RX7_19 : gfk RX7 19 7 2 := ⟨RX7, TX7, 3, rfl, inW_X7, by decide, wm_347⟩
theorem clC_79 : shC[79]? = some (.inr (0, 4)) := rfl
theorem wm_1079 : (Jvm.Cond.methodLink "SheGoesOut$Sheets" (30 : Nat) ({ cls := "SheGoesOut$Sheets", name := "holds", desc := "(III)Z" } : Jvm.MethodName)) ∈ gw := gw_at 1079 (by decide +kernel) (by decide +kernel)
theorem wm_1080 : (Jvm.Cond.instanceMethod ({ cls := "SheGoesOut$Sheets", name := "holds", desc := "(III)Z" } : Jvm.MethodName)) ∈ gw := gw_at 1080 (by decide +kernel) (by decide +kernel)
theorem wm_1081 : (Jvm.Cond.selects "SheGoesOut$Sheets" ({ cls := "SheGoesOut$Sheets", name := "holds", desc := "(III)Z" } : Jvm.MethodName) ({ cls := "SheGoesOut$Sheets", name := "holds", desc := "(III)Z" } : Jvm.MethodName)) ∈ gw := gw_at 1081 (by decide +kernel) (by decide +kernel)
theorem wm_1082 : (Jvm.Cond.code ({ cls := "SheGoesOut$Sheets", name := "holds", desc := "(III)Z" } : Jvm.MethodName) prog_9_method_6_code (4 : Nat) (Option.some Jvm.ClassFile.FieldType.boolean)) ∈ gw := gw_at 1082 (by decide +kernel) (by decide +kernel)
theorem cv_RX7_30 : gcv RX7 30 yX7_holds cX7_holds 4 (some .boolean) 3 7 := ⟨⟨wm_1079, wm_1080, wm_1081, wm_58, wm_1082⟩, ⟨by decide, by decide, by decide +kernel⟩, ⟨_, rfl, rfl⟩⟩
theorem kb_m13 : (Int8.ofInt (-13)).toInt32 = (-13 : Int32) := by decide
theorem kb_m12 : (Int8.ofInt (-12)).toInt32 = (-12 : Int32) := by decide
theorem wm_1071 : (Jvm.Cond.methodLink "SheGoesOut" (327 : Nat) ({ cls := "SheGoesOut$Sheets", name := "wrong", desc := "(IIII)I" } : Jvm.MethodName)) ∈ gw := gw_at 1071 (by decide +kernel) (by decide +kernel)
theorem wm_1072 : (Jvm.Cond.instanceMethod ({ cls := "SheGoesOut$Sheets", name := "wrong", desc := "(IIII)I" } : Jvm.MethodName)) ∈ gw := gw_at 1072 (by decide +kernel) (by decide +kernel)
theorem wm_1073 : (Jvm.Cond.selects "SheGoesOut$Sheets" ({ cls := "SheGoesOut$Sheets", name := "wrong", desc := "(IIII)I" } : Jvm.MethodName) ({ cls := "SheGoesOut$Sheets", name := "wrong", desc := "(IIII)I" } : Jvm.MethodName)) ∈ gw := gw_at 1073 (by decide +kernel) (by decide +kernel)
theorem wm_1074 : (Jvm.Cond.code ({ cls := "SheGoesOut$Sheets", name := "wrong", desc := "(IIII)I" } : Jvm.MethodName) prog_9_method_7_code (5 : Nat) (Option.some Jvm.ClassFile.FieldType.int)) ∈ gw := gw_at 1074 (by decide +kernel) (by decide +kernel)
theorem cv_RX11_327 : gcv RX11 327 yX7_wrong cX7_wrong 5 (some .int) 4 7 := ⟨⟨wm_1071, wm_1072, wm_1073, wm_58, wm_1074⟩, ⟨by decide, by decide, by decide +kernel⟩, ⟨_, rfl, rfl⟩⟩
theorem wm_1083 : (Jvm.Cond.methodLink "SheGoesOut" (331 : Nat) ({ cls := "SheGoesOut", name := "areFindsAsTold", desc := "(III)Z" } : Jvm.MethodName)) ∈ gw := gw_at 1083 (by decide +kernel) (by decide +kernel)
theorem wm_1085 : (Jvm.Cond.instanceMethod ({ cls := "SheGoesOut", name := "areFindsAsTold", desc := "(III)Z" } : Jvm.MethodName)) ∈ gw := gw_at 1085 (by decide +kernel) (by decide +kernel)
theorem wm_20 : (Jvm.Cond.selects "SheGoesOut" ({ cls := "SheGoesOut", name := "areFindsAsTold", desc := "(III)Z" } : Jvm.MethodName) ({ cls := "SheGoesOut", name := "areFindsAsTold", desc := "(III)Z" } : Jvm.MethodName)) ∈ gw := gw_at 20 (by decide +kernel) (by decide +kernel)
theorem wm_1086 : (Jvm.Cond.code ({ cls := "SheGoesOut", name := "areFindsAsTold", desc := "(III)Z" } : Jvm.MethodName) prog_1_method_51_code (6 : Nat) (Option.some Jvm.ClassFile.FieldType.boolean)) ∈ gw := gw_at 1086 (by decide +kernel) (by decide +kernel)
theorem cv_RX11_331 : gcv RX11 331 yX11_areFindsAsTold cX11_areFindsAsTold 6 (some .boolean) 3 11 := ⟨⟨wm_1083, wm_1085, wm_20, wm_47, wm_1086⟩, ⟨by decide, by decide, by decide +kernel⟩, ⟨_, rfl, rfl⟩⟩
theorem wm_1099 : (Jvm.Cond.methodLink "SheGoesOut$Sheets" (39 : Nat) ({ cls := "SheGoesOut$Sheets", name := "cut", desc := "(IJ)J" } : Jvm.MethodName)) ∈ gw := gw_at 1099 (by decide +kernel) (by decide +kernel)
theorem wm_1100 : (Jvm.Cond.static ({ cls := "SheGoesOut$Sheets", name := "cut", desc := "(IJ)J" } : Jvm.MethodName)) ∈ gw := gw_at 1100 (by decide +kernel) (by decide +kernel)
theorem wm_1101 : (Jvm.Cond.code ({ cls := "SheGoesOut$Sheets", name := "cut", desc := "(IJ)J" } : Jvm.MethodName) prog_9_method_12_code (3 : Nat) (Option.some Jvm.ClassFile.FieldType.long)) ∈ gw := gw_at 1101 (by decide +kernel) (by decide +kernel)
theorem cs_RX7_39 : gcs RX7 39 yX7_cut cX7_cut 3 (some .long) 2 := ⟨⟨wm_1099, wm_1100, wm_58, wm_1101⟩, by decide, by decide, by decide +kernel⟩
theorem wm_1095 : (Jvm.Cond.methodLink "SheGoesOut" (337 : Nat) ({ cls := "SheGoesOut$Sheets", name := "put", desc := "(IIJ)V" } : Jvm.MethodName)) ∈ gw := gw_at 1095 (by decide +kernel) (by decide +kernel)
theorem wm_1096 : (Jvm.Cond.instanceMethod ({ cls := "SheGoesOut$Sheets", name := "put", desc := "(IIJ)V" } : Jvm.MethodName)) ∈ gw := gw_at 1096 (by decide +kernel) (by decide +kernel)
theorem wm_1097 : (Jvm.Cond.selects "SheGoesOut$Sheets" ({ cls := "SheGoesOut$Sheets", name := "put", desc := "(IIJ)V" } : Jvm.MethodName) ({ cls := "SheGoesOut$Sheets", name := "put", desc := "(IIJ)V" } : Jvm.MethodName)) ∈ gw := gw_at 1097 (by decide +kernel) (by decide +kernel)
theorem wm_1098 : (Jvm.Cond.code ({ cls := "SheGoesOut$Sheets", name := "put", desc := "(IIJ)V" } : Jvm.MethodName) prog_9_method_11_code (5 : Nat) (Option.none : Option Jvm.ClassFile.FieldType)) ∈ gw := gw_at 1098 (by decide +kernel) (by decide +kernel)
theorem cv_RX11_337 : gcv RX11 337 yX7_put cX7_put 5 none 3 7 := ⟨⟨wm_1095, wm_1096, wm_1097, wm_58, wm_1098⟩, ⟨by decide, by decide, by decide +kernel⟩, ⟨_, rfl, rfl⟩⟩
theorem wm_1113 : (Jvm.Cond.methodLink "java/util/Arrays" (13 : Nat) ({ cls := "java/util/Arrays", name := "rangeCheck", desc := "(III)V" } : Jvm.MethodName)) ∈ gw := gw_at 1113 (by decide +kernel) (by decide +kernel)
theorem wm_1114 : (Jvm.Cond.static ({ cls := "java/util/Arrays", name := "rangeCheck", desc := "(III)V" } : Jvm.MethodName)) ∈ gw := gw_at 1114 (by decide +kernel) (by decide +kernel)
theorem wm_1115 : (Jvm.Cond.code ({ cls := "java/util/Arrays", name := "rangeCheck", desc := "(III)V" } : Jvm.MethodName) prog_22_method_30_code (3 : Nat) (Option.none : Option Jvm.ClassFile.FieldType)) ∈ gw := gw_at 1115 (by decide +kernel) (by decide +kernel)
theorem cs_RJ7_13 : gcs RJ7 13 yJ7_rangeCheck_23922 cJ7_rangeCheck_23922 3 none 3 := ⟨⟨wm_1113, wm_1114, wm_66, wm_1115⟩, by decide, by decide, by decide +kernel⟩
theorem wm_1110 : (Jvm.Cond.methodLink "SheGoesOut$Sheets" (33 : Nat) ({ cls := "java/util/Arrays", name := "fill", desc := "([JIIJ)V" } : Jvm.MethodName)) ∈ gw := gw_at 1110 (by decide +kernel) (by decide +kernel)
theorem wm_1111 : (Jvm.Cond.static ({ cls := "java/util/Arrays", name := "fill", desc := "([JIIJ)V" } : Jvm.MethodName)) ∈ gw := gw_at 1111 (by decide +kernel) (by decide +kernel)
theorem wm_1112 : (Jvm.Cond.code ({ cls := "java/util/Arrays", name := "fill", desc := "([JIIJ)V" } : Jvm.MethodName) prog_22_method_102_code (6 : Nat) (Option.none : Option Jvm.ClassFile.FieldType)) ∈ gw := gw_at 1112 (by decide +kernel) (by decide +kernel)
theorem cs_RX7_33 : gcs RX7 33 yJ7_fill_bad5a cJ7_fill_bad5a 6 none 4 := ⟨⟨wm_1110, wm_1111, wm_66, wm_1112⟩, by decide, by decide, by decide +kernel⟩
theorem wm_1106 : (Jvm.Cond.methodLink "SheGoesOut" (341 : Nat) ({ cls := "SheGoesOut$Sheets", name := "renew", desc := "(III)V" } : Jvm.MethodName)) ∈ gw := gw_at 1106 (by decide +kernel) (by decide +kernel)
theorem wm_1107 : (Jvm.Cond.instanceMethod ({ cls := "SheGoesOut$Sheets", name := "renew", desc := "(III)V" } : Jvm.MethodName)) ∈ gw := gw_at 1107 (by decide +kernel) (by decide +kernel)
theorem wm_1108 : (Jvm.Cond.selects "SheGoesOut$Sheets" ({ cls := "SheGoesOut$Sheets", name := "renew", desc := "(III)V" } : Jvm.MethodName) ({ cls := "SheGoesOut$Sheets", name := "renew", desc := "(III)V" } : Jvm.MethodName)) ∈ gw := gw_at 1108 (by decide +kernel) (by decide +kernel)
theorem wm_1109 : (Jvm.Cond.code ({ cls := "SheGoesOut$Sheets", name := "renew", desc := "(III)V" } : Jvm.MethodName) prog_9_method_8_code (4 : Nat) (Option.none : Option Jvm.ClassFile.FieldType)) ∈ gw := gw_at 1109 (by decide +kernel) (by decide +kernel)
theorem cv_RX11_341 : gcv RX11 341 yX7_renew cX7_renew 4 none 3 7 := ⟨⟨wm_1106, wm_1107, wm_1108, wm_58, wm_1109⟩, ⟨by decide, by decide, by decide +kernel⟩, ⟨_, rfl, rfl⟩⟩
theorem kb_m14 : (Int8.ofInt (-14)).toInt32 = (-14 : Int32) := by decide
theorem wm_1120 : (Jvm.Cond.methodLink "SheGoesOut" (344 : Nat) ({ cls := "SheGoesOut$Sheets", name := "isThere", desc := "(I)Z" } : Jvm.MethodName)) ∈ gw := gw_at 1120 (by decide +kernel) (by decide +kernel)
theorem cv_RX11_344 : gcv RX11 344 yX7_isThere cX7_isThere 2 (some .boolean) 1 7 := ⟨⟨wm_1120, wm_1076, wm_1077, wm_58, wm_1078⟩, ⟨by decide, by decide, by decide +kernel⟩, ⟨_, rfl, rfl⟩⟩
theorem wm_1121 : (Jvm.Cond.methodLink "SheGoesOut" (347 : Nat) ({ cls := "SheGoesOut$Sheets", name := "empty", desc := "(I)I" } : Jvm.MethodName)) ∈ gw := gw_at 1121 (by decide +kernel) (by decide +kernel)
theorem wm_1122 : (Jvm.Cond.instanceMethod ({ cls := "SheGoesOut$Sheets", name := "empty", desc := "(I)I" } : Jvm.MethodName)) ∈ gw := gw_at 1122 (by decide +kernel) (by decide +kernel)
theorem wm_1123 : (Jvm.Cond.selects "SheGoesOut$Sheets" ({ cls := "SheGoesOut$Sheets", name := "empty", desc := "(I)I" } : Jvm.MethodName) ({ cls := "SheGoesOut$Sheets", name := "empty", desc := "(I)I" } : Jvm.MethodName)) ∈ gw := gw_at 1123 (by decide +kernel) (by decide +kernel)
theorem wm_1124 : (Jvm.Cond.code ({ cls := "SheGoesOut$Sheets", name := "empty", desc := "(I)I" } : Jvm.MethodName) prog_9_method_9_code (2 : Nat) (Option.some Jvm.ClassFile.FieldType.int)) ∈ gw := gw_at 1124 (by decide +kernel) (by decide +kernel)
theorem cv_RX11_347 : gcv RX11 347 yX7_empty cX7_empty 2 (some .int) 1 7 := ⟨⟨wm_1121, wm_1122, wm_1123, wm_58, wm_1124⟩, ⟨by decide, by decide, by decide +kernel⟩, ⟨_, rfl, rfl⟩⟩
theorem wm_1133 : (Jvm.Cond.methodLink "SheGoesOut" (349 : Nat) ({ cls := "SheGoesOut$Sheets", name := "areAlike", desc := "(II)Z" } : Jvm.MethodName)) ∈ gw := gw_at 1133 (by decide +kernel) (by decide +kernel)
theorem wm_1134 : (Jvm.Cond.instanceMethod ({ cls := "SheGoesOut$Sheets", name := "areAlike", desc := "(II)Z" } : Jvm.MethodName)) ∈ gw := gw_at 1134 (by decide +kernel) (by decide +kernel)
theorem wm_1135 : (Jvm.Cond.selects "SheGoesOut$Sheets" ({ cls := "SheGoesOut$Sheets", name := "areAlike", desc := "(II)Z" } : Jvm.MethodName) ({ cls := "SheGoesOut$Sheets", name := "areAlike", desc := "(II)Z" } : Jvm.MethodName)) ∈ gw := gw_at 1135 (by decide +kernel) (by decide +kernel)
theorem wm_1136 : (Jvm.Cond.code ({ cls := "SheGoesOut$Sheets", name := "areAlike", desc := "(II)Z" } : Jvm.MethodName) prog_9_method_5_code (3 : Nat) (Option.some Jvm.ClassFile.FieldType.boolean)) ∈ gw := gw_at 1136 (by decide +kernel) (by decide +kernel)
theorem cv_RX11_349 : gcv RX11 349 yX7_areAlike cX7_areAlike 3 (some .boolean) 2 7 := ⟨⟨wm_1133, wm_1134, wm_1135, wm_58, wm_1136⟩, ⟨by decide, by decide, by decide +kernel⟩, ⟨_, rfl, rfl⟩⟩
theorem wm_1137 : (Jvm.Cond.methodLink "SheGoesOut" (352 : Nat) ({ cls := "SheGoesOut$Sheets", name := "holds", desc := "(III)Z" } : Jvm.MethodName)) ∈ gw := gw_at 1137 (by decide +kernel) (by decide +kernel)
theorem cv_RX11_352 : gcv RX11 352 yX7_holds cX7_holds 4 (some .boolean) 3 7 := ⟨⟨wm_1137, wm_1080, wm_1081, wm_58, wm_1082⟩, ⟨by decide, by decide, by decide +kernel⟩, ⟨_, rfl, rfl⟩⟩
theorem wm_1142 : (Jvm.Cond.methodLink "SheGoesOut$Sheets" (43 : Nat) ({ cls := "java/lang/System", name := "arraycopy", desc := "(Ljava/lang/Object;ILjava/lang/Object;II)V" } : Jvm.MethodName)) ∈ gw := gw_at 1142 (by decide +kernel) (by decide +kernel)
theorem wm_1138 : (Jvm.Cond.methodLink "SheGoesOut" (355 : Nat) ({ cls := "SheGoesOut$Sheets", name := "move", desc := "(IIIII)V" } : Jvm.MethodName)) ∈ gw := gw_at 1138 (by decide +kernel) (by decide +kernel)
theorem wm_1139 : (Jvm.Cond.instanceMethod ({ cls := "SheGoesOut$Sheets", name := "move", desc := "(IIIII)V" } : Jvm.MethodName)) ∈ gw := gw_at 1139 (by decide +kernel) (by decide +kernel)
theorem wm_1140 : (Jvm.Cond.selects "SheGoesOut$Sheets" ({ cls := "SheGoesOut$Sheets", name := "move", desc := "(IIIII)V" } : Jvm.MethodName) ({ cls := "SheGoesOut$Sheets", name := "move", desc := "(IIIII)V" } : Jvm.MethodName)) ∈ gw := gw_at 1140 (by decide +kernel) (by decide +kernel)
theorem wm_1141 : (Jvm.Cond.code ({ cls := "SheGoesOut$Sheets", name := "move", desc := "(IIIII)V" } : Jvm.MethodName) prog_9_method_13_code (6 : Nat) (Option.none : Option Jvm.ClassFile.FieldType)) ∈ gw := gw_at 1141 (by decide +kernel) (by decide +kernel)
theorem cv_RX11_355 : gcv RX11 355 yX7_move cX7_move 6 none 5 7 := ⟨⟨wm_1138, wm_1139, wm_1140, wm_58, wm_1141⟩, ⟨by decide, by decide, by decide +kernel⟩, ⟨_, rfl, rfl⟩⟩
theorem wm_1280 : (Jvm.Cond.constantLong "SheGoesOutModel" (124 : Nat) (8 : Int64)) ∈ gw := gw_at 1280 (by decide +kernel) (by decide +kernel)
theorem wm_1281 : (Jvm.Cond.methodLink "SheGoesOutModel" (126 : Nat) ({ cls := "SheGoesOutModel", name := "in", desc := "(JJJ)Z" } : Jvm.MethodName)) ∈ gw := gw_at 1281 (by decide +kernel) (by decide +kernel)
theorem wm_1282 : (Jvm.Cond.static ({ cls := "SheGoesOutModel", name := "in", desc := "(JJJ)Z" } : Jvm.MethodName)) ∈ gw := gw_at 1282 (by decide +kernel) (by decide +kernel)
theorem wm_59 : (Jvm.Cond.initialized "SheGoesOutModel") ∈ gw := gw_at 59 (by decide +kernel) (by decide +kernel)
theorem wm_1283 : (Jvm.Cond.code ({ cls := "SheGoesOutModel", name := "in", desc := "(JJJ)Z" } : Jvm.MethodName) prog_14_method_2_code (6 : Nat) (Option.some Jvm.ClassFile.FieldType.boolean)) ∈ gw := gw_at 1283 (by decide +kernel) (by decide +kernel)
theorem cs_RX12_126 : gcs RX12 126 yX12_in cX12_in 6 (some .boolean) 3 := ⟨⟨wm_1281, wm_1282, wm_59, wm_1283⟩, by decide, by decide, by decide +kernel⟩
theorem clM_1 : shM[1]? = some (.inr (0, 9)) := rfl
theorem inW_X12 : ∀ w ∈ u_ws RX12 TX12 42, w ∈ gw := gw_ps _ [1191, 1193, 1195, 1197, 1199, 1201, 1203, 1205, 1207, 1209, 1211, 1213, 1215, 1217, 1219, 1221, 1223, 1225, 1227, 1229, 1231, 1233, 1235, 1237, 1239, 1241, 1243, 1245, 1247, 1249, 1251, 1253, 1255, 1257, 1259, 1261, 1263, 1265, 1267, 1269, 1271, 1273] (by decide +kernel) (by decide +kernel)
theorem wm_1149 : (Jvm.Cond.fieldLink "SheGoesOutModel" (7 : Nat) "SheGoesOutModel" "counts" "[I") ∈ gw := gw_at 1149 (by decide +kernel) (by decide +kernel)
theorem fk_RX12_7 : gfk RX12 7 12 0 := ⟨RX12, TX12, 42, rfl, inW_X12, by decide, wm_1149⟩
theorem clM_0 : shM[0]? = some (.inl (12, [3, 4, 5, 6, 7, 8, 9, 0, 0, 0, 10, 11, 12, 0, 0, 13, 14, 15, 0, 16, 17, 0, 18, 19, 20, 21, 22, 0, 23, 24, 25, 0, 26, 27, 28, 29, 30, 0, 31, 32, 33, 34])) := rfl
theorem wm_1296 : (Jvm.Cond.constant "SheGoesOutModel" (119 : Nat) (1000000 : Int32)) ∈ gw := gw_at 1296 (by decide +kernel) (by decide +kernel)
theorem wm_1292 : (Jvm.Cond.constantLong "SheGoesOutModel" (111 : Nat) (-20 : Int64)) ∈ gw := gw_at 1292 (by decide +kernel) (by decide +kernel)
theorem wm_1293 : (Jvm.Cond.constantLong "SheGoesOutModel" (113 : Nat) (-11 : Int64)) ∈ gw := gw_at 1293 (by decide +kernel) (by decide +kernel)
theorem wm_1295 : (Jvm.Cond.constantLong "SheGoesOutModel" (117 : Nat) (-1 : Int64)) ∈ gw := gw_at 1295 (by decide +kernel) (by decide +kernel)
theorem wm_1294 : (Jvm.Cond.constantLong "SheGoesOutModel" (115 : Nat) (-7 : Int64)) ∈ gw := gw_at 1294 (by decide +kernel) (by decide +kernel)
theorem wm_1288 : (Jvm.Cond.methodLink "SheGoesOutModel" (120 : Nat) ({ cls := "SheGoesOutModel", name := "says", desc := "(J)J" } : Jvm.MethodName)) ∈ gw := gw_at 1288 (by decide +kernel) (by decide +kernel)
theorem wm_1290 : (Jvm.Cond.instanceMethod ({ cls := "SheGoesOutModel", name := "says", desc := "(J)J" } : Jvm.MethodName)) ∈ gw := gw_at 1290 (by decide +kernel) (by decide +kernel)
theorem wm_22 : (Jvm.Cond.selects "SheGoesOutModel" ({ cls := "SheGoesOutModel", name := "says", desc := "(J)J" } : Jvm.MethodName) ({ cls := "SheGoesOutModel", name := "says", desc := "(J)J" } : Jvm.MethodName)) ∈ gw := gw_at 22 (by decide +kernel) (by decide +kernel)
theorem wm_1291 : (Jvm.Cond.code ({ cls := "SheGoesOutModel", name := "says", desc := "(J)J" } : Jvm.MethodName) prog_14_method_4_code (4 : Nat) (Option.some Jvm.ClassFile.FieldType.long)) ∈ gw := gw_at 1291 (by decide +kernel) (by decide +kernel)
theorem cv_RX12_120 : gcv RX12 120 yX12_says cX12_says 4 (some .long) 1 12 := ⟨⟨wm_1288, wm_1290, wm_22, wm_59, wm_1291⟩, ⟨by decide, by decide, by decide +kernel⟩, ⟨_, rfl, rfl⟩⟩
theorem wm_1284 : (Jvm.Cond.methodLink "SheGoesOutModel" (130 : Nat) ({ cls := "SheGoesOutModel", name := "tells", desc := "(I)I" } : Jvm.MethodName)) ∈ gw := gw_at 1284 (by decide +kernel) (by decide +kernel)
theorem wm_1286 : (Jvm.Cond.instanceMethod ({ cls := "SheGoesOutModel", name := "tells", desc := "(I)I" } : Jvm.MethodName)) ∈ gw := gw_at 1286 (by decide +kernel) (by decide +kernel)
theorem wm_21 : (Jvm.Cond.selects "SheGoesOutModel" ({ cls := "SheGoesOutModel", name := "tells", desc := "(I)I" } : Jvm.MethodName) ({ cls := "SheGoesOutModel", name := "tells", desc := "(I)I" } : Jvm.MethodName)) ∈ gw := gw_at 21 (by decide +kernel) (by decide +kernel)
theorem wm_1287 : (Jvm.Cond.code ({ cls := "SheGoesOutModel", name := "tells", desc := "(I)I" } : Jvm.MethodName) prog_14_method_5_code (2 : Nat) (Option.some Jvm.ClassFile.FieldType.int)) ∈ gw := gw_at 1287 (by decide +kernel) (by decide +kernel)
theorem cv_RX12_130 : gcv RX12 130 yX12_tells cX12_tells 2 (some .int) 1 12 := ⟨⟨wm_1284, wm_1286, wm_21, wm_59, wm_1287⟩, ⟨by decide, by decide, by decide +kernel⟩, ⟨_, rfl, rfl⟩⟩
theorem wm_1304 : (Jvm.Cond.constantLong "SheGoesOutModel" (134 : Nat) (143 : Int64)) ∈ gw := gw_at 1304 (by decide +kernel) (by decide +kernel)
theorem wm_1301 : (Jvm.Cond.methodLink "SheGoesOutModel" (138 : Nat) ({ cls := "SheGoesOutModel", name := "isCell", desc := "(I)Z" } : Jvm.MethodName)) ∈ gw := gw_at 1301 (by decide +kernel) (by decide +kernel)
theorem wm_1302 : (Jvm.Cond.static ({ cls := "SheGoesOutModel", name := "isCell", desc := "(I)Z" } : Jvm.MethodName)) ∈ gw := gw_at 1302 (by decide +kernel) (by decide +kernel)
theorem wm_1303 : (Jvm.Cond.code ({ cls := "SheGoesOutModel", name := "isCell", desc := "(I)Z" } : Jvm.MethodName) prog_14_method_7_code (1 : Nat) (Option.some Jvm.ClassFile.FieldType.boolean)) ∈ gw := gw_at 1303 (by decide +kernel) (by decide +kernel)
theorem cs_RX12_138 : gcs RX12 138 yX12_isCell cX12_isCell 1 (some .boolean) 1 := ⟨⟨wm_1301, wm_1302, wm_59, wm_1303⟩, by decide, by decide, by decide +kernel⟩
theorem wm_1308 : (Jvm.Cond.constantLong "SheGoesOutModel" (136 : Nat) (7 : Int64)) ∈ gw := gw_at 1308 (by decide +kernel) (by decide +kernel)
theorem wm_1305 : (Jvm.Cond.methodLink "SheGoesOutModel" (142 : Nat) ({ cls := "SheGoesOutModel", name := "isKind", desc := "(I)Z" } : Jvm.MethodName)) ∈ gw := gw_at 1305 (by decide +kernel) (by decide +kernel)
theorem wm_1306 : (Jvm.Cond.static ({ cls := "SheGoesOutModel", name := "isKind", desc := "(I)Z" } : Jvm.MethodName)) ∈ gw := gw_at 1306 (by decide +kernel) (by decide +kernel)
theorem wm_1307 : (Jvm.Cond.code ({ cls := "SheGoesOutModel", name := "isKind", desc := "(I)Z" } : Jvm.MethodName) prog_14_method_8_code (1 : Nat) (Option.some Jvm.ClassFile.FieldType.boolean)) ∈ gw := gw_at 1307 (by decide +kernel) (by decide +kernel)
theorem cs_RX12_142 : gcs RX12 142 yX12_isKind cX12_isKind 1 (some .boolean) 1 := ⟨⟨wm_1305, wm_1306, wm_59, wm_1307⟩, by decide, by decide, by decide +kernel⟩
theorem wm_1150 : (Jvm.Cond.fieldLink "SheGoesOutModel" (13 : Nat) "SheGoesOutModel" "kinds" "[I") ∈ gw := gw_at 1150 (by decide +kernel) (by decide +kernel)
theorem fk_RX12_13 : gfk RX12 13 12 1 := ⟨RX12, TX12, 42, rfl, inW_X12, by decide, wm_1150⟩
theorem clM_2 : shM[2]? = some (.inr (0, 144)) := rfl
theorem wm_1313 : (Jvm.Cond.constantLong "SheGoesOutModel" (145 : Nat) (9 : Int64)) ∈ gw := gw_at 1313 (by decide +kernel) (by decide +kernel)
theorem wm_1151 : (Jvm.Cond.fieldLink "SheGoesOutModel" (16 : Nat) "SheGoesOutModel" "draws" "[I") ∈ gw := gw_at 1151 (by decide +kernel) (by decide +kernel)
theorem fk_RX12_16 : gfk RX12 16 12 2 := ⟨RX12, TX12, 42, rfl, inW_X12, by decide, wm_1151⟩
theorem clM_3 : shM[3]? = some (.inr (0, 144)) := rfl
theorem wm_1318 : (Jvm.Cond.constantLong "SheGoesOutModel" (147 : Nat) (2 : Int64)) ∈ gw := gw_at 1318 (by decide +kernel) (by decide +kernel)
theorem wm_1152 : (Jvm.Cond.fieldLink "SheGoesOutModel" (19 : Nat) "SheGoesOutModel" "searched" "[I") ∈ gw := gw_at 1152 (by decide +kernel) (by decide +kernel)
theorem fk_RX12_19 : gfk RX12 19 12 3 := ⟨RX12, TX12, 42, rfl, inW_X12, by decide, wm_1152⟩
theorem clM_4 : shM[4]? = some (.inr (0, 144)) := rfl
theorem wm_1153 : (Jvm.Cond.fieldLink "SheGoesOutModel" (22 : Nat) "SheGoesOutModel" "settings" "[I") ∈ gw := gw_at 1153 (by decide +kernel) (by decide +kernel)
theorem fk_RX12_22 : gfk RX12 22 12 4 := ⟨RX12, TX12, 42, rfl, inW_X12, by decide, wm_1153⟩
theorem clM_5 : shM[5]? = some (.inr (0, 10)) := rfl
theorem wm_1324 : (Jvm.Cond.constantLong "SheGoesOutModel" (151 : Nat) (999 : Int64)) ∈ gw := gw_at 1324 (by decide +kernel) (by decide +kernel)
theorem wm_1323 : (Jvm.Cond.constantLong "SheGoesOutModel" (149 : Nat) (3 : Int64)) ∈ gw := gw_at 1323 (by decide +kernel) (by decide +kernel)
theorem wm_1154 : (Jvm.Cond.fieldLink "SheGoesOutModel" (25 : Nat) "SheGoesOutModel" "sitting" "[I") ∈ gw := gw_at 1154 (by decide +kernel) (by decide +kernel)
theorem fk_RX12_25 : gfk RX12 25 12 5 := ⟨RX12, TX12, 42, rfl, inW_X12, by decide, wm_1154⟩
theorem clM_6 : shM[6]? = some (.inr (0, 8)) := rfl
theorem wm_1156 : (Jvm.Cond.fieldLink "SheGoesOutModel" (159 : Nat) "SheGoesOutModel" "taped" "I") ∈ gw := gw_at 1156 (by decide +kernel) (by decide +kernel)
theorem fk_RX12_159 : gfk RX12 159 12 7 := ⟨RX12, TX12, 42, rfl, inW_X12, by decide, wm_1156⟩
theorem wm_1155 : (Jvm.Cond.fieldLink "SheGoesOutModel" (28 : Nat) "SheGoesOutModel" "tape" "[I") ∈ gw := gw_at 1155 (by decide +kernel) (by decide +kernel)
theorem fk_RX12_28 : gfk RX12 28 12 6 := ⟨RX12, TX12, 42, rfl, inW_X12, by decide, wm_1155⟩
theorem wm_1333 : (Jvm.Cond.constantLong "SheGoesOutModel" (153 : Nat) (255 : Int64)) ∈ gw := gw_at 1333 (by decide +kernel) (by decide +kernel)
theorem clM_7 : shM[7]? = some (.inr (0, 160)) := rfl
theorem fp_RX12_159 : gfp RX12 159 12 7 .int := ⟨RX12, TX12, 42, tyX12, rfl, inW_X12, by decide, wm_1156, tyX12_ok, nmX12, rfl, rfl⟩
theorem wm_1334 : (Jvm.Cond.constantLong "SheGoesOutModel" (155 : Nat) (32 : Int64)) ∈ gw := gw_at 1334 (by decide +kernel) (by decide +kernel)
theorem wm_1335 : (Jvm.Cond.constantLong "SheGoesOutModel" (157 : Nat) (126 : Int64)) ∈ gw := gw_at 1335 (by decide +kernel) (by decide +kernel)
theorem wm_1159 : (Jvm.Cond.fieldLink "SheGoesOutModel" (31 : Nat) "SheGoesOutModel" "read" "[I") ∈ gw := gw_at 1159 (by decide +kernel) (by decide +kernel)
theorem fk_RX12_31 : gfk RX12 31 12 10 := ⟨RX12, TX12, 42, rfl, inW_X12, by decide, wm_1159⟩
theorem clM_8 : shM[8]? = some (.inr (0, 144)) := rfl
theorem wm_1158 : (Jvm.Cond.fieldLink "SheGoesOutModel" (165 : Nat) "SheGoesOutModel" "wrong" "Z") ∈ gw := gw_at 1158 (by decide +kernel) (by decide +kernel)
theorem fp_RX12_165 : gfp RX12 165 12 9 .boolean := ⟨RX12, TX12, 42, tyX12, rfl, inW_X12, by decide, wm_1158, tyX12_ok, nmX12, rfl, rfl⟩
theorem fk_RX12_165 : gfk RX12 165 12 9 := ⟨RX12, TX12, 42, rfl, inW_X12, by decide, wm_1158⟩
theorem wm_1157 : (Jvm.Cond.fieldLink "SheGoesOutModel" (162 : Nat) "SheGoesOutModel" "at" "I") ∈ gw := gw_at 1157 (by decide +kernel) (by decide +kernel)
theorem fk_RX12_162 : gfk RX12 162 12 8 := ⟨RX12, TX12, 42, rfl, inW_X12, by decide, wm_1157⟩
theorem fp_RX12_162 : gfp RX12 162 12 8 .int := ⟨RX12, TX12, 42, tyX12, rfl, inW_X12, by decide, wm_1157, tyX12_ok, nmX12, rfl, rfl⟩
theorem wm_1344 : (Jvm.Cond.methodLink "SheGoesOutModel" (169 : Nat) ({ cls := "SheGoesOutModel", name := "here", desc := "()I" } : Jvm.MethodName)) ∈ gw := gw_at 1344 (by decide +kernel) (by decide +kernel)
theorem wm_1346 : (Jvm.Cond.instanceMethod ({ cls := "SheGoesOutModel", name := "here", desc := "()I" } : Jvm.MethodName)) ∈ gw := gw_at 1346 (by decide +kernel) (by decide +kernel)
theorem wm_24 : (Jvm.Cond.selects "SheGoesOutModel" ({ cls := "SheGoesOutModel", name := "here", desc := "()I" } : Jvm.MethodName) ({ cls := "SheGoesOutModel", name := "here", desc := "()I" } : Jvm.MethodName)) ∈ gw := gw_at 24 (by decide +kernel) (by decide +kernel)
theorem wm_1347 : (Jvm.Cond.code ({ cls := "SheGoesOutModel", name := "here", desc := "()I" } : Jvm.MethodName) prog_14_method_15_code (1 : Nat) (Option.some Jvm.ClassFile.FieldType.int)) ∈ gw := gw_at 1347 (by decide +kernel) (by decide +kernel)
theorem cv_RX12_169 : gcv RX12 169 yX12_here cX12_here 1 (some .int) 0 12 := ⟨⟨wm_1344, wm_1346, wm_24, wm_59, wm_1347⟩, ⟨by decide, by decide, by decide +kernel⟩, ⟨_, rfl, rfl⟩⟩
theorem wm_1353 : (Jvm.Cond.methodLink "SheGoesOutModel" (183 : Nat) ({ cls := "SheGoesOutModel", name := "has", desc := "(I)Z" } : Jvm.MethodName)) ∈ gw := gw_at 1353 (by decide +kernel) (by decide +kernel)
theorem wm_1355 : (Jvm.Cond.instanceMethod ({ cls := "SheGoesOutModel", name := "has", desc := "(I)Z" } : Jvm.MethodName)) ∈ gw := gw_at 1355 (by decide +kernel) (by decide +kernel)
theorem wm_25 : (Jvm.Cond.selects "SheGoesOutModel" ({ cls := "SheGoesOutModel", name := "has", desc := "(I)Z" } : Jvm.MethodName) ({ cls := "SheGoesOutModel", name := "has", desc := "(I)Z" } : Jvm.MethodName)) ∈ gw := gw_at 25 (by decide +kernel) (by decide +kernel)
theorem wm_1356 : (Jvm.Cond.code ({ cls := "SheGoesOutModel", name := "has", desc := "(I)Z" } : Jvm.MethodName) prog_14_method_16_code (3 : Nat) (Option.some Jvm.ClassFile.FieldType.boolean)) ∈ gw := gw_at 1356 (by decide +kernel) (by decide +kernel)
theorem cv_RX12_183 : gcv RX12 183 yX12_has cX12_has 3 (some .boolean) 1 12 := ⟨⟨wm_1353, wm_1355, wm_25, wm_59, wm_1356⟩, ⟨by decide, by decide, by decide +kernel⟩, ⟨_, rfl, rfl⟩⟩
theorem wm_1348 : (Jvm.Cond.methodLink "SheGoesOutModel" (173 : Nat) ({ cls := "SheGoesOutModel", name := "kindOf", desc := "(I)I" } : Jvm.MethodName)) ∈ gw := gw_at 1348 (by decide +kernel) (by decide +kernel)
theorem wm_1349 : (Jvm.Cond.static ({ cls := "SheGoesOutModel", name := "kindOf", desc := "(I)I" } : Jvm.MethodName)) ∈ gw := gw_at 1349 (by decide +kernel) (by decide +kernel)
theorem wm_1350 : (Jvm.Cond.code ({ cls := "SheGoesOutModel", name := "kindOf", desc := "(I)I" } : Jvm.MethodName) prog_14_method_17_code (1 : Nat) (Option.some Jvm.ClassFile.FieldType.int)) ∈ gw := gw_at 1350 (by decide +kernel) (by decide +kernel)
theorem cs_RX12_173 : gcs RX12 173 yX12_kindOf cX12_kindOf 1 (some .int) 1 := ⟨⟨wm_1348, wm_1349, wm_59, wm_1350⟩, by decide, by decide, by decide +kernel⟩
theorem wm_1351 : (Jvm.Cond.constantLong "SheGoesOutModel" (176 : Nat) (49 : Int64)) ∈ gw := gw_at 1351 (by decide +kernel) (by decide +kernel)
theorem wm_1352 : (Jvm.Cond.constantLong "SheGoesOutModel" (178 : Nat) (57 : Int64)) ∈ gw := gw_at 1352 (by decide +kernel) (by decide +kernel)
theorem wm_1340 : (Jvm.Cond.methodLink "SheGoesOutModel" (180 : Nat) ({ cls := "SheGoesOutModel", name := "row", desc := "(I)I" } : Jvm.MethodName)) ∈ gw := gw_at 1340 (by decide +kernel) (by decide +kernel)
theorem wm_1342 : (Jvm.Cond.instanceMethod ({ cls := "SheGoesOutModel", name := "row", desc := "(I)I" } : Jvm.MethodName)) ∈ gw := gw_at 1342 (by decide +kernel) (by decide +kernel)
theorem wm_23 : (Jvm.Cond.selects "SheGoesOutModel" ({ cls := "SheGoesOutModel", name := "row", desc := "(I)I" } : Jvm.MethodName) ({ cls := "SheGoesOutModel", name := "row", desc := "(I)I" } : Jvm.MethodName)) ∈ gw := gw_at 23 (by decide +kernel) (by decide +kernel)
theorem wm_1343 : (Jvm.Cond.code ({ cls := "SheGoesOutModel", name := "row", desc := "(I)I" } : Jvm.MethodName) prog_14_method_18_code (7 : Nat) (Option.some Jvm.ClassFile.FieldType.int)) ∈ gw := gw_at 1343 (by decide +kernel) (by decide +kernel)
theorem cv_RX12_180 : gcv RX12 180 yX12_row cX12_row 7 (some .int) 1 12 := ⟨⟨wm_1340, wm_1342, wm_23, wm_59, wm_1343⟩, ⟨by decide, by decide, by decide +kernel⟩, ⟨_, rfl, rfl⟩⟩
theorem wm_1364 : (Jvm.Cond.constantLong "SheGoesOutModel" (189 : Nat) (48 : Int64)) ∈ gw := gw_at 1364 (by decide +kernel) (by decide +kernel)
theorem wm_1361 : (Jvm.Cond.methodLink "SheGoesOutModel" (186 : Nat) ({ cls := "SheGoesOutModel", name := "settingOf", desc := "(I)I" } : Jvm.MethodName)) ∈ gw := gw_at 1361 (by decide +kernel) (by decide +kernel)
theorem wm_1362 : (Jvm.Cond.static ({ cls := "SheGoesOutModel", name := "settingOf", desc := "(I)I" } : Jvm.MethodName)) ∈ gw := gw_at 1362 (by decide +kernel) (by decide +kernel)
theorem wm_1363 : (Jvm.Cond.code ({ cls := "SheGoesOutModel", name := "settingOf", desc := "(I)I" } : Jvm.MethodName) prog_14_method_20_code (1 : Nat) (Option.some Jvm.ClassFile.FieldType.int)) ∈ gw := gw_at 1363 (by decide +kernel) (by decide +kernel)
theorem cs_RX12_186 : gcs RX12 186 yX12_settingOf cX12_settingOf 1 (some .int) 1 := ⟨⟨wm_1361, wm_1362, wm_59, wm_1363⟩, by decide, by decide, by decide +kernel⟩
theorem wm_1160 : (Jvm.Cond.fieldLink "SheGoesOutModel" (34 : Nat) "SheGoesOutModel" "now" "[J") ∈ gw := gw_at 1160 (by decide +kernel) (by decide +kernel)
theorem fk_RX12_34 : gfk RX12 34 12 11 := ⟨RX12, TX12, 42, rfl, inW_X12, by decide, wm_1160⟩
theorem wm_1369 : (Jvm.Cond.constantLong "SheGoesOutModel" (191 : Nat) (1099511627776 : Int64)) ∈ gw := gw_at 1369 (by decide +kernel) (by decide +kernel)
theorem clM_9 : shM[9]? = some (.inr (1, 720)) := rfl
theorem wm_1162 : (Jvm.Cond.fieldLink "SheGoesOutModel" (107 : Nat) "SheGoesOutModel" "minute" "I") ∈ gw := gw_at 1162 (by decide +kernel) (by decide +kernel)
theorem fp_RX12_107 : gfp RX12 107 12 13 .int := ⟨RX12, TX12, 42, tyX12, rfl, inW_X12, by decide, wm_1162, tyX12_ok, nmX12, rfl, rfl⟩
theorem ks_720 : (Int16.ofInt (720)).toInt32 = (720 : Int32) := by decide
theorem fk_RX12_107 : gfk RX12 107 12 13 := ⟨RX12, TX12, 42, rfl, inW_X12, by decide, wm_1162⟩
theorem wm_1161 : (Jvm.Cond.fieldLink "SheGoesOutModel" (38 : Nat) "SheGoesOutModel" "then" "[J") ∈ gw := gw_at 1161 (by decide +kernel) (by decide +kernel)
theorem fk_RX12_38 : gfk RX12 38 12 12 := ⟨RX12, TX12, 42, rfl, inW_X12, by decide, wm_1161⟩
theorem clM_10 : shM[10]? = some (.inr (1, 720)) := rfl
theorem wm_1387 : (Jvm.Cond.methodLink "SheGoesOutModel" (203 : Nat) ({ cls := "SheGoesOutModel", name := "stopBehind", desc := "(I)I" } : Jvm.MethodName)) ∈ gw := gw_at 1387 (by decide +kernel) (by decide +kernel)
theorem wm_1389 : (Jvm.Cond.instanceMethod ({ cls := "SheGoesOutModel", name := "stopBehind", desc := "(I)I" } : Jvm.MethodName)) ∈ gw := gw_at 1389 (by decide +kernel) (by decide +kernel)
theorem wm_28 : (Jvm.Cond.selects "SheGoesOutModel" ({ cls := "SheGoesOutModel", name := "stopBehind", desc := "(I)I" } : Jvm.MethodName) ({ cls := "SheGoesOutModel", name := "stopBehind", desc := "(I)I" } : Jvm.MethodName)) ∈ gw := gw_at 28 (by decide +kernel) (by decide +kernel)
theorem wm_1390 : (Jvm.Cond.code ({ cls := "SheGoesOutModel", name := "stopBehind", desc := "(I)I" } : Jvm.MethodName) prog_14_method_25_code (3 : Nat) (Option.some Jvm.ClassFile.FieldType.int)) ∈ gw := gw_at 1390 (by decide +kernel) (by decide +kernel)
theorem cv_RX12_203 : gcv RX12 203 yX12_stopBehind cX12_stopBehind 3 (some .int) 1 12 := ⟨⟨wm_1387, wm_1389, wm_28, wm_59, wm_1390⟩, ⟨by decide, by decide, by decide +kernel⟩, ⟨_, rfl, rfl⟩⟩
theorem wm_1386 : (Jvm.Cond.constantLong "SheGoesOutModel" (193 : Nat) (11 : Int64)) ∈ gw := gw_at 1386 (by decide +kernel) (by decide +kernel)
theorem wm_1383 : (Jvm.Cond.methodLink "SheGoesOutModel" (195 : Nat) ({ cls := "SheGoesOutModel", name := "next", desc := "(II)I" } : Jvm.MethodName)) ∈ gw := gw_at 1383 (by decide +kernel) (by decide +kernel)
theorem wm_1384 : (Jvm.Cond.static ({ cls := "SheGoesOutModel", name := "next", desc := "(II)I" } : Jvm.MethodName)) ∈ gw := gw_at 1384 (by decide +kernel) (by decide +kernel)
theorem wm_1385 : (Jvm.Cond.code ({ cls := "SheGoesOutModel", name := "next", desc := "(II)I" } : Jvm.MethodName) prog_14_method_23_code (4 : Nat) (Option.some Jvm.ClassFile.FieldType.int)) ∈ gw := gw_at 1385 (by decide +kernel) (by decide +kernel)
theorem cs_RX12_195 : gcs RX12 195 yX12_next cX12_next 4 (some .int) 2 := ⟨⟨wm_1383, wm_1384, wm_59, wm_1385⟩, by decide, by decide, by decide +kernel⟩
theorem wm_1379 : (Jvm.Cond.methodLink "SheGoesOutModel" (199 : Nat) ({ cls := "SheGoesOutModel", name := "weight", desc := "(III)I" } : Jvm.MethodName)) ∈ gw := gw_at 1379 (by decide +kernel) (by decide +kernel)
theorem wm_1381 : (Jvm.Cond.instanceMethod ({ cls := "SheGoesOutModel", name := "weight", desc := "(III)I" } : Jvm.MethodName)) ∈ gw := gw_at 1381 (by decide +kernel) (by decide +kernel)
theorem wm_27 : (Jvm.Cond.selects "SheGoesOutModel" ({ cls := "SheGoesOutModel", name := "weight", desc := "(III)I" } : Jvm.MethodName) ({ cls := "SheGoesOutModel", name := "weight", desc := "(III)I" } : Jvm.MethodName)) ∈ gw := gw_at 27 (by decide +kernel) (by decide +kernel)
theorem wm_1382 : (Jvm.Cond.code ({ cls := "SheGoesOutModel", name := "weight", desc := "(III)I" } : Jvm.MethodName) prog_14_method_24_code (5 : Nat) (Option.some Jvm.ClassFile.FieldType.int)) ∈ gw := gw_at 1382 (by decide +kernel) (by decide +kernel)
theorem cv_RX12_199 : gcv RX12 199 yX12_weight cX12_weight 5 (some .int) 3 12 := ⟨⟨wm_1379, wm_1381, wm_27, wm_59, wm_1382⟩, ⟨by decide, by decide, by decide +kernel⟩, ⟨_, rfl, rfl⟩⟩
theorem wm_1375 : (Jvm.Cond.methodLink "SheGoesOutModel" (208 : Nat) ({ cls := "SheGoesOutModel", name := "goes", desc := "(II)V" } : Jvm.MethodName)) ∈ gw := gw_at 1375 (by decide +kernel) (by decide +kernel)
theorem wm_1377 : (Jvm.Cond.instanceMethod ({ cls := "SheGoesOutModel", name := "goes", desc := "(II)V" } : Jvm.MethodName)) ∈ gw := gw_at 1377 (by decide +kernel) (by decide +kernel)
theorem wm_26 : (Jvm.Cond.selects "SheGoesOutModel" ({ cls := "SheGoesOutModel", name := "goes", desc := "(II)V" } : Jvm.MethodName) ({ cls := "SheGoesOutModel", name := "goes", desc := "(II)V" } : Jvm.MethodName)) ∈ gw := gw_at 26 (by decide +kernel) (by decide +kernel)
theorem wm_1378 : (Jvm.Cond.code ({ cls := "SheGoesOutModel", name := "goes", desc := "(II)V" } : Jvm.MethodName) prog_14_method_26_code (15 : Nat) (Option.none : Option Jvm.ClassFile.FieldType)) ∈ gw := gw_at 1378 (by decide +kernel) (by decide +kernel)
theorem cv_RX12_208 : gcv RX12 208 yX12_goes cX12_goes 15 none 2 12 := ⟨⟨wm_1375, wm_1377, wm_26, wm_59, wm_1378⟩, ⟨by decide, by decide, by decide +kernel⟩, ⟨_, rfl, rfl⟩⟩
theorem wm_1374 : (Jvm.Cond.constantLong "SheGoesOutModel" (206 : Nat) (60 : Int64)) ∈ gw := gw_at 1374 (by decide +kernel) (by decide +kernel)
theorem wm_1395 : (Jvm.Cond.constantLong "SheGoesOutModel" (212 : Nat) (5 : Int64)) ∈ gw := gw_at 1395 (by decide +kernel) (by decide +kernel)
theorem wm_1396 : (Jvm.Cond.methodLink "SheGoesOutModel" (214 : Nat) ({ cls := "SheGoesOutModel", name := "partsOf", desc := "(I)J" } : Jvm.MethodName)) ∈ gw := gw_at 1396 (by decide +kernel) (by decide +kernel)
theorem wm_1398 : (Jvm.Cond.instanceMethod ({ cls := "SheGoesOutModel", name := "partsOf", desc := "(I)J" } : Jvm.MethodName)) ∈ gw := gw_at 1398 (by decide +kernel) (by decide +kernel)
theorem wm_29 : (Jvm.Cond.selects "SheGoesOutModel" ({ cls := "SheGoesOutModel", name := "partsOf", desc := "(I)J" } : Jvm.MethodName) ({ cls := "SheGoesOutModel", name := "partsOf", desc := "(I)J" } : Jvm.MethodName)) ∈ gw := gw_at 29 (by decide +kernel) (by decide +kernel)
theorem wm_1399 : (Jvm.Cond.code ({ cls := "SheGoesOutModel", name := "partsOf", desc := "(I)J" } : Jvm.MethodName) prog_14_method_28_code (5 : Nat) (Option.some Jvm.ClassFile.FieldType.long)) ∈ gw := gw_at 1399 (by decide +kernel) (by decide +kernel)
theorem cv_RX12_214 : gcv RX12 214 yX12_partsOf cX12_partsOf 5 (some .long) 1 12 := ⟨⟨wm_1396, wm_1398, wm_29, wm_59, wm_1399⟩, ⟨by decide, by decide, by decide +kernel⟩, ⟨_, rfl, rfl⟩⟩
theorem wm_1404 : (Jvm.Cond.methodLink "SheGoesOutModel" (218 : Nat) ({ cls := "SheGoesOutModel", name := "all", desc := "()J" } : Jvm.MethodName)) ∈ gw := gw_at 1404 (by decide +kernel) (by decide +kernel)
theorem wm_1406 : (Jvm.Cond.instanceMethod ({ cls := "SheGoesOutModel", name := "all", desc := "()J" } : Jvm.MethodName)) ∈ gw := gw_at 1406 (by decide +kernel) (by decide +kernel)
theorem wm_30 : (Jvm.Cond.selects "SheGoesOutModel" ({ cls := "SheGoesOutModel", name := "all", desc := "()J" } : Jvm.MethodName) ({ cls := "SheGoesOutModel", name := "all", desc := "()J" } : Jvm.MethodName)) ∈ gw := gw_at 30 (by decide +kernel) (by decide +kernel)
theorem wm_1407 : (Jvm.Cond.code ({ cls := "SheGoesOutModel", name := "all", desc := "()J" } : Jvm.MethodName) prog_14_method_29_code (4 : Nat) (Option.some Jvm.ClassFile.FieldType.long)) ∈ gw := gw_at 1407 (by decide +kernel) (by decide +kernel)
theorem cv_RX12_218 : gcv RX12 218 yX12_all cX12_all 4 (some .long) 0 12 := ⟨⟨wm_1404, wm_1406, wm_30, wm_59, wm_1407⟩, ⟨by decide, by decide, by decide +kernel⟩, ⟨_, rfl, rfl⟩⟩
theorem wm_1409 : (Jvm.Cond.methodLink "SheGoesOutModel" (224 : Nat) ({ cls := "SheGoesOutModel", name := "lowest", desc := "(JJI)J" } : Jvm.MethodName)) ∈ gw := gw_at 1409 (by decide +kernel) (by decide +kernel)
theorem wm_1410 : (Jvm.Cond.static ({ cls := "SheGoesOutModel", name := "lowest", desc := "(JJI)J" } : Jvm.MethodName)) ∈ gw := gw_at 1410 (by decide +kernel) (by decide +kernel)
theorem wm_1411 : (Jvm.Cond.code ({ cls := "SheGoesOutModel", name := "lowest", desc := "(JJI)J" } : Jvm.MethodName) prog_14_method_31_code (11 : Nat) (Option.some Jvm.ClassFile.FieldType.long)) ∈ gw := gw_at 1411 (by decide +kernel) (by decide +kernel)
theorem cs_RX12_224 : gcs RX12 224 yX12_lowest cX12_lowest 11 (some .long) 3 := ⟨⟨wm_1409, wm_1410, wm_59, wm_1411⟩, by decide, by decide, by decide +kernel⟩
theorem wm_1408 : (Jvm.Cond.constantLong "SheGoesOutModel" (222 : Nat) (-4 : Int64)) ∈ gw := gw_at 1408 (by decide +kernel) (by decide +kernel)
theorem wm_1163 : (Jvm.Cond.fieldLink "SheGoesOutModel" (228 : Nat) "SheGoesOutModel" "teams" "I") ∈ gw := gw_at 1163 (by decide +kernel) (by decide +kernel)
theorem fk_RX12_228 : gfk RX12 228 12 14 := ⟨RX12, TX12, 42, rfl, inW_X12, by decide, wm_1163⟩
theorem wm_1167 : (Jvm.Cond.fieldLink "SheGoesOutModel" (231 : Nat) "SheGoesOutModel" "places" "I") ∈ gw := gw_at 1167 (by decide +kernel) (by decide +kernel)
theorem fk_RX12_231 : gfk RX12 231 12 18 := ⟨RX12, TX12, 42, rfl, inW_X12, by decide, wm_1167⟩
theorem wm_1170 : (Jvm.Cond.fieldLink "SheGoesOutModel" (234 : Nat) "SheGoesOutModel" "jobs" "I") ∈ gw := gw_at 1170 (by decide +kernel) (by decide +kernel)
theorem fk_RX12_234 : gfk RX12 234 12 21 := ⟨RX12, TX12, 42, rfl, inW_X12, by decide, wm_1170⟩
theorem wm_1176 : (Jvm.Cond.fieldLink "SheGoesOutModel" (237 : Nat) "SheGoesOutModel" "book" "I") ∈ gw := gw_at 1176 (by decide +kernel) (by decide +kernel)
theorem fk_RX12_237 : gfk RX12 237 12 27 := ⟨RX12, TX12, 42, rfl, inW_X12, by decide, wm_1176⟩
theorem wm_1180 : (Jvm.Cond.fieldLink "SheGoesOutModel" (240 : Nat) "SheGoesOutModel" "measures" "I") ∈ gw := gw_at 1180 (by decide +kernel) (by decide +kernel)
theorem fk_RX12_240 : gfk RX12 240 12 31 := ⟨RX12, TX12, 42, rfl, inW_X12, by decide, wm_1180⟩
theorem wm_1420 : (Jvm.Cond.methodLink "SheGoesOutModel" (243 : Nat) ({ cls := "SheGoesOutModel", name := "cellsOf", desc := "(I)I" } : Jvm.MethodName)) ∈ gw := gw_at 1420 (by decide +kernel) (by decide +kernel)
theorem wm_1422 : (Jvm.Cond.instanceMethod ({ cls := "SheGoesOutModel", name := "cellsOf", desc := "(I)I" } : Jvm.MethodName)) ∈ gw := gw_at 1422 (by decide +kernel) (by decide +kernel)
theorem wm_31 : (Jvm.Cond.selects "SheGoesOutModel" ({ cls := "SheGoesOutModel", name := "cellsOf", desc := "(I)I" } : Jvm.MethodName) ({ cls := "SheGoesOutModel", name := "cellsOf", desc := "(I)I" } : Jvm.MethodName)) ∈ gw := gw_at 31 (by decide +kernel) (by decide +kernel)
theorem wm_1423 : (Jvm.Cond.code ({ cls := "SheGoesOutModel", name := "cellsOf", desc := "(I)I" } : Jvm.MethodName) prog_14_method_34_code (4 : Nat) (Option.some Jvm.ClassFile.FieldType.int)) ∈ gw := gw_at 1423 (by decide +kernel) (by decide +kernel)
theorem cv_RX12_243 : gcv RX12 243 yX12_cellsOf cX12_cellsOf 4 (some .int) 1 12 := ⟨⟨wm_1420, wm_1422, wm_31, wm_59, wm_1423⟩, ⟨by decide, by decide, by decide +kernel⟩, ⟨_, rfl, rfl⟩⟩
theorem kb_14 : (Int8.ofInt (14)).toInt32 = (14 : Int32) := by decide
theorem wm_1435 : (Jvm.Cond.methodLink "SheGoesOutModel" (246 : Nat) ({ cls := "SheGoesOutModel", name := "plain", desc := "(II)I" } : Jvm.MethodName)) ∈ gw := gw_at 1435 (by decide +kernel) (by decide +kernel)
theorem wm_1436 : (Jvm.Cond.static ({ cls := "SheGoesOutModel", name := "plain", desc := "(II)I" } : Jvm.MethodName)) ∈ gw := gw_at 1436 (by decide +kernel) (by decide +kernel)
theorem wm_1437 : (Jvm.Cond.code ({ cls := "SheGoesOutModel", name := "plain", desc := "(II)I" } : Jvm.MethodName) prog_14_method_36_code (2 : Nat) (Option.some Jvm.ClassFile.FieldType.int)) ∈ gw := gw_at 1437 (by decide +kernel) (by decide +kernel)
theorem cs_RX12_246 : gcs RX12 246 yX12_plain cX12_plain 2 (some .int) 2 := ⟨⟨wm_1435, wm_1436, wm_59, wm_1437⟩, by decide, by decide, by decide +kernel⟩
theorem wm_1431 : (Jvm.Cond.methodLink "SheGoesOutModel" (249 : Nat) ({ cls := "SheGoesOutModel", name := "sixteenths", desc := "(IIZI)I" } : Jvm.MethodName)) ∈ gw := gw_at 1431 (by decide +kernel) (by decide +kernel)
theorem wm_1433 : (Jvm.Cond.instanceMethod ({ cls := "SheGoesOutModel", name := "sixteenths", desc := "(IIZI)I" } : Jvm.MethodName)) ∈ gw := gw_at 1433 (by decide +kernel) (by decide +kernel)
theorem wm_32 : (Jvm.Cond.selects "SheGoesOutModel" ({ cls := "SheGoesOutModel", name := "sixteenths", desc := "(IIZI)I" } : Jvm.MethodName) ({ cls := "SheGoesOutModel", name := "sixteenths", desc := "(IIZI)I" } : Jvm.MethodName)) ∈ gw := gw_at 32 (by decide +kernel) (by decide +kernel)
theorem wm_1434 : (Jvm.Cond.code ({ cls := "SheGoesOutModel", name := "sixteenths", desc := "(IIZI)I" } : Jvm.MethodName) prog_14_method_37_code (7 : Nat) (Option.some Jvm.ClassFile.FieldType.int)) ∈ gw := gw_at 1434 (by decide +kernel) (by decide +kernel)
theorem cv_RX12_249 : gcv RX12 249 yX12_sixteenths cX12_sixteenths 7 (some .int) 4 12 := ⟨⟨wm_1431, wm_1433, wm_32, wm_59, wm_1434⟩, ⟨by decide, by decide, by decide +kernel⟩, ⟨_, rfl, rfl⟩⟩
theorem wm_1428 : (Jvm.Cond.methodLink "SheGoesOutModel" (255 : Nat) ({ cls := "SheGoesOutModel", name := "isSort", desc := "(I)Z" } : Jvm.MethodName)) ∈ gw := gw_at 1428 (by decide +kernel) (by decide +kernel)
theorem wm_1429 : (Jvm.Cond.static ({ cls := "SheGoesOutModel", name := "isSort", desc := "(I)Z" } : Jvm.MethodName)) ∈ gw := gw_at 1429 (by decide +kernel) (by decide +kernel)
theorem wm_1430 : (Jvm.Cond.code ({ cls := "SheGoesOutModel", name := "isSort", desc := "(I)Z" } : Jvm.MethodName) prog_14_method_39_code (1 : Nat) (Option.some Jvm.ClassFile.FieldType.boolean)) ∈ gw := gw_at 1430 (by decide +kernel) (by decide +kernel)
theorem cs_RX12_255 : gcs RX12 255 yX12_isSort cX12_isSort 1 (some .boolean) 1 := ⟨⟨wm_1428, wm_1429, wm_59, wm_1430⟩, by decide, by decide, by decide +kernel⟩
theorem wm_1442 : (Jvm.Cond.constantLong "SheGoesOutModel" (253 : Nat) (16 : Int64)) ∈ gw := gw_at 1442 (by decide +kernel) (by decide +kernel)
theorem wm_1443 : (Jvm.Cond.constantLong "SheGoesOutModel" (258 : Nat) (1000 : Int64)) ∈ gw := gw_at 1443 (by decide +kernel) (by decide +kernel)
theorem wm_1448 : (Jvm.Cond.methodLink "SheGoesOutModel" (260 : Nat) ({ cls := "SheGoesOutModel", name := "aliveAt", desc := "(I)I" } : Jvm.MethodName)) ∈ gw := gw_at 1448 (by decide +kernel) (by decide +kernel)
theorem wm_1450 : (Jvm.Cond.instanceMethod ({ cls := "SheGoesOutModel", name := "aliveAt", desc := "(I)I" } : Jvm.MethodName)) ∈ gw := gw_at 1450 (by decide +kernel) (by decide +kernel)
theorem wm_33 : (Jvm.Cond.selects "SheGoesOutModel" ({ cls := "SheGoesOutModel", name := "aliveAt", desc := "(I)I" } : Jvm.MethodName) ({ cls := "SheGoesOutModel", name := "aliveAt", desc := "(I)I" } : Jvm.MethodName)) ∈ gw := gw_at 33 (by decide +kernel) (by decide +kernel)
theorem wm_1451 : (Jvm.Cond.code ({ cls := "SheGoesOutModel", name := "aliveAt", desc := "(I)I" } : Jvm.MethodName) prog_14_method_42_code (4 : Nat) (Option.some Jvm.ClassFile.FieldType.int)) ∈ gw := gw_at 1451 (by decide +kernel) (by decide +kernel)
theorem cv_RX12_260 : gcv RX12 260 yX12_aliveAt cX12_aliveAt 4 (some .int) 1 12 := ⟨⟨wm_1448, wm_1450, wm_33, wm_59, wm_1451⟩, ⟨by decide, by decide, by decide +kernel⟩, ⟨_, rfl, rfl⟩⟩
theorem wm_1164 : (Jvm.Cond.fieldLink "SheGoesOutModel" (41 : Nat) "SheGoesOutModel" "teamSort" "[I") ∈ gw := gw_at 1164 (by decide +kernel) (by decide +kernel)
theorem fk_RX12_41 : gfk RX12 41 12 15 := ⟨RX12, TX12, 42, rfl, inW_X12, by decide, wm_1164⟩
theorem clM_11 : shM[11]? = some (.inr (0, 4)) := rfl
theorem wm_1165 : (Jvm.Cond.fieldLink "SheGoesOutModel" (44 : Nat) "SheGoesOutModel" "teamCell" "[I") ∈ gw := gw_at 1165 (by decide +kernel) (by decide +kernel)
theorem fk_RX12_44 : gfk RX12 44 12 16 := ⟨RX12, TX12, 42, rfl, inW_X12, by decide, wm_1165⟩
theorem clM_12 : shM[12]? = some (.inr (0, 4)) := rfl
theorem wm_1166 : (Jvm.Cond.fieldLink "SheGoesOutModel" (47 : Nat) "SheGoesOutModel" "teamPace" "[I") ∈ gw := gw_at 1166 (by decide +kernel) (by decide +kernel)
theorem fk_RX12_47 : gfk RX12 47 12 17 := ⟨RX12, TX12, 42, rfl, inW_X12, by decide, wm_1166⟩
theorem clM_13 : shM[13]? = some (.inr (0, 4)) := rfl
theorem fp_RX12_228 : gfp RX12 228 12 14 .int := ⟨RX12, TX12, 42, tyX12, rfl, inW_X12, by decide, wm_1163, tyX12_ok, nmX12, rfl, rfl⟩
theorem wm_1168 : (Jvm.Cond.fieldLink "SheGoesOutModel" (50 : Nat) "SheGoesOutModel" "placeCell" "[I") ∈ gw := gw_at 1168 (by decide +kernel) (by decide +kernel)
theorem fk_RX12_50 : gfk RX12 50 12 19 := ⟨RX12, TX12, 42, rfl, inW_X12, by decide, wm_1168⟩
theorem clM_14 : shM[14]? = some (.inr (0, 6)) := rfl
theorem fp_RX12_231 : gfp RX12 231 12 18 .int := ⟨RX12, TX12, 42, tyX12, rfl, inW_X12, by decide, wm_1167, tyX12_ok, nmX12, rfl, rfl⟩
theorem wm_1169 : (Jvm.Cond.fieldLink "SheGoesOutModel" (53 : Nat) "SheGoesOutModel" "values" "[J") ∈ gw := gw_at 1169 (by decide +kernel) (by decide +kernel)
theorem fk_RX12_53 : gfk RX12 53 12 20 := ⟨RX12, TX12, 42, rfl, inW_X12, by decide, wm_1169⟩
theorem clM_15 : shM[15]? = some (.inr (1, 24)) := rfl
theorem wm_1473 : (Jvm.Cond.methodLink "SheGoesOutModel" (263 : Nat) ({ cls := "SheGoesOutModel", name := "size", desc := "(I)I" } : Jvm.MethodName)) ∈ gw := gw_at 1473 (by decide +kernel) (by decide +kernel)
theorem wm_1474 : (Jvm.Cond.static ({ cls := "SheGoesOutModel", name := "size", desc := "(I)I" } : Jvm.MethodName)) ∈ gw := gw_at 1474 (by decide +kernel) (by decide +kernel)
theorem wm_1475 : (Jvm.Cond.code ({ cls := "SheGoesOutModel", name := "size", desc := "(I)I" } : Jvm.MethodName) prog_14_method_46_code (1 : Nat) (Option.some Jvm.ClassFile.FieldType.int)) ∈ gw := gw_at 1475 (by decide +kernel) (by decide +kernel)
theorem cs_RX12_263 : gcs RX12 263 yX12_size cX12_size 1 (some .int) 1 := ⟨⟨wm_1473, wm_1474, wm_59, wm_1475⟩, by decide, by decide, by decide +kernel⟩
theorem wm_1476 : (Jvm.Cond.methodLink "SheGoesOutModel" (266 : Nat) ({ cls := "SheGoesOutModel", name := "seen", desc := "(III)J" } : Jvm.MethodName)) ∈ gw := gw_at 1476 (by decide +kernel) (by decide +kernel)
theorem wm_1478 : (Jvm.Cond.instanceMethod ({ cls := "SheGoesOutModel", name := "seen", desc := "(III)J" } : Jvm.MethodName)) ∈ gw := gw_at 1478 (by decide +kernel) (by decide +kernel)
theorem wm_36 : (Jvm.Cond.selects "SheGoesOutModel" ({ cls := "SheGoesOutModel", name := "seen", desc := "(III)J" } : Jvm.MethodName) ({ cls := "SheGoesOutModel", name := "seen", desc := "(III)J" } : Jvm.MethodName)) ∈ gw := gw_at 36 (by decide +kernel) (by decide +kernel)
theorem wm_1479 : (Jvm.Cond.code ({ cls := "SheGoesOutModel", name := "seen", desc := "(III)J" } : Jvm.MethodName) prog_14_method_38_code (7 : Nat) (Option.some Jvm.ClassFile.FieldType.long)) ∈ gw := gw_at 1479 (by decide +kernel) (by decide +kernel)
theorem cv_RX12_266 : gcv RX12 266 yX12_seen cX12_seen 7 (some .long) 3 12 := ⟨⟨wm_1476, wm_1478, wm_36, wm_59, wm_1479⟩, ⟨by decide, by decide, by decide +kernel⟩, ⟨_, rfl, rfl⟩⟩
theorem wm_1469 : (Jvm.Cond.methodLink "SheGoesOutModel" (270 : Nat) ({ cls := "SheGoesOutModel", name := "value", desc := "(II)J" } : Jvm.MethodName)) ∈ gw := gw_at 1469 (by decide +kernel) (by decide +kernel)
theorem wm_1471 : (Jvm.Cond.instanceMethod ({ cls := "SheGoesOutModel", name := "value", desc := "(II)J" } : Jvm.MethodName)) ∈ gw := gw_at 1471 (by decide +kernel) (by decide +kernel)
theorem wm_35 : (Jvm.Cond.selects "SheGoesOutModel" ({ cls := "SheGoesOutModel", name := "value", desc := "(II)J" } : Jvm.MethodName) ({ cls := "SheGoesOutModel", name := "value", desc := "(II)J" } : Jvm.MethodName)) ∈ gw := gw_at 35 (by decide +kernel) (by decide +kernel)
theorem wm_1472 : (Jvm.Cond.code ({ cls := "SheGoesOutModel", name := "value", desc := "(II)J" } : Jvm.MethodName) prog_14_method_47_code (5 : Nat) (Option.some Jvm.ClassFile.FieldType.long)) ∈ gw := gw_at 1472 (by decide +kernel) (by decide +kernel)
theorem cv_RX12_270 : gcv RX12 270 yX12_value cX12_value 5 (some .long) 2 12 := ⟨⟨wm_1469, wm_1471, wm_35, wm_59, wm_1472⟩, ⟨by decide, by decide, by decide +kernel⟩, ⟨_, rfl, rfl⟩⟩
theorem wm_1465 : (Jvm.Cond.methodLink "SheGoesOutModel" (276 : Nat) ({ cls := "SheGoesOutModel", name := "valuesAll", desc := "()V" } : Jvm.MethodName)) ∈ gw := gw_at 1465 (by decide +kernel) (by decide +kernel)
theorem wm_1467 : (Jvm.Cond.instanceMethod ({ cls := "SheGoesOutModel", name := "valuesAll", desc := "()V" } : Jvm.MethodName)) ∈ gw := gw_at 1467 (by decide +kernel) (by decide +kernel)
theorem wm_34 : (Jvm.Cond.selects "SheGoesOutModel" ({ cls := "SheGoesOutModel", name := "valuesAll", desc := "()V" } : Jvm.MethodName) ({ cls := "SheGoesOutModel", name := "valuesAll", desc := "()V" } : Jvm.MethodName)) ∈ gw := gw_at 34 (by decide +kernel) (by decide +kernel)
theorem wm_1468 : (Jvm.Cond.code ({ cls := "SheGoesOutModel", name := "valuesAll", desc := "()V" } : Jvm.MethodName) prog_14_method_48_code (3 : Nat) (Option.none : Option Jvm.ClassFile.FieldType)) ∈ gw := gw_at 1468 (by decide +kernel) (by decide +kernel)
theorem cv_RX12_276 : gcv RX12 276 yX12_valuesAll cX12_valuesAll 3 none 0 12 := ⟨⟨wm_1465, wm_1467, wm_34, wm_59, wm_1468⟩, ⟨by decide, by decide, by decide +kernel⟩, ⟨_, rfl, rfl⟩⟩
theorem wm_1464 : (Jvm.Cond.constantLong "SheGoesOutModel" (274 : Nat) (-2 : Int64)) ∈ gw := gw_at 1464 (by decide +kernel) (by decide +kernel)
theorem wm_1496 : (Jvm.Cond.methodLink "SheGoesOutModel" (285 : Nat) ({ cls := "SheGoesOutModel", name := "apart", desc := "(II)I" } : Jvm.MethodName)) ∈ gw := gw_at 1496 (by decide +kernel) (by decide +kernel)
theorem wm_1497 : (Jvm.Cond.static ({ cls := "SheGoesOutModel", name := "apart", desc := "(II)I" } : Jvm.MethodName)) ∈ gw := gw_at 1497 (by decide +kernel) (by decide +kernel)
theorem wm_1498 : (Jvm.Cond.code ({ cls := "SheGoesOutModel", name := "apart", desc := "(II)I" } : Jvm.MethodName) prog_14_method_52_code (4 : Nat) (Option.some Jvm.ClassFile.FieldType.int)) ∈ gw := gw_at 1498 (by decide +kernel) (by decide +kernel)
theorem cs_RX12_285 : gcs RX12 285 yX12_apart cX12_apart 4 (some .int) 2 := ⟨⟨wm_1496, wm_1497, wm_59, wm_1498⟩, by decide, by decide, by decide +kernel⟩
theorem wm_1495 : (Jvm.Cond.constantLong "SheGoesOutModel" (279 : Nat) (15 : Int64)) ∈ gw := gw_at 1495 (by decide +kernel) (by decide +kernel)
theorem wm_1492 : (Jvm.Cond.methodLink "SheGoesOutModel" (281 : Nat) ({ cls := "SheGoesOutModel", name := "isCall", desc := "(III)Z" } : Jvm.MethodName)) ∈ gw := gw_at 1492 (by decide +kernel) (by decide +kernel)
theorem wm_1493 : (Jvm.Cond.static ({ cls := "SheGoesOutModel", name := "isCall", desc := "(III)Z" } : Jvm.MethodName)) ∈ gw := gw_at 1493 (by decide +kernel) (by decide +kernel)
theorem wm_1494 : (Jvm.Cond.code ({ cls := "SheGoesOutModel", name := "isCall", desc := "(III)Z" } : Jvm.MethodName) prog_14_method_53_code (3 : Nat) (Option.some Jvm.ClassFile.FieldType.boolean)) ∈ gw := gw_at 1494 (by decide +kernel) (by decide +kernel)
theorem cs_RX12_281 : gcs RX12 281 yX12_isCall cX12_isCall 3 (some .boolean) 3 := ⟨⟨wm_1492, wm_1493, wm_59, wm_1494⟩, by decide, by decide, by decide +kernel⟩
theorem wm_1503 : (Jvm.Cond.constantLong "SheGoesOutModel" (288 : Nat) (144 : Int64)) ∈ gw := gw_at 1503 (by decide +kernel) (by decide +kernel)
theorem wm_1171 : (Jvm.Cond.fieldLink "SheGoesOutModel" (56 : Nat) "SheGoesOutModel" "jobCell" "[I") ∈ gw := gw_at 1171 (by decide +kernel) (by decide +kernel)
theorem fk_RX12_56 : gfk RX12 56 12 22 := ⟨RX12, TX12, 42, rfl, inW_X12, by decide, wm_1171⟩
theorem clM_16 : shM[16]? = some (.inr (0, 6)) := rfl
theorem wm_1172 : (Jvm.Cond.fieldLink "SheGoesOutModel" (59 : Nat) "SheGoesOutModel" "jobSort" "[I") ∈ gw := gw_at 1172 (by decide +kernel) (by decide +kernel)
theorem fk_RX12_59 : gfk RX12 59 12 23 := ⟨RX12, TX12, 42, rfl, inW_X12, by decide, wm_1172⟩
theorem clM_17 : shM[17]? = some (.inr (0, 6)) := rfl
theorem wm_1173 : (Jvm.Cond.fieldLink "SheGoesOutModel" (62 : Nat) "SheGoesOutModel" "jobTakes" "[I") ∈ gw := gw_at 1173 (by decide +kernel) (by decide +kernel)
theorem fk_RX12_62 : gfk RX12 62 12 24 := ⟨RX12, TX12, 42, rfl, inW_X12, by decide, wm_1173⟩
theorem clM_18 : shM[18]? = some (.inr (0, 6)) := rfl
theorem fp_RX12_234 : gfp RX12 234 12 21 .int := ⟨RX12, TX12, 42, tyX12, rfl, inW_X12, by decide, wm_1170, tyX12_ok, nmX12, rfl, rfl⟩
theorem wm_1174 : (Jvm.Cond.fieldLink "SheGoesOutModel" (65 : Nat) "SheGoesOutModel" "order" "[I") ∈ gw := gw_at 1174 (by decide +kernel) (by decide +kernel)
theorem fk_RX12_65 : gfk RX12 65 12 25 := ⟨RX12, TX12, 42, rfl, inW_X12, by decide, wm_1174⟩
theorem clM_19 : shM[19]? = some (.inr (0, 6)) := rfl
theorem wm_1512 : (Jvm.Cond.methodLink "SheGoesOutModel" (290 : Nat) ({ cls := "SheGoesOutModel", name := "turns", desc := "(I)Z" } : Jvm.MethodName)) ∈ gw := gw_at 1512 (by decide +kernel) (by decide +kernel)
theorem wm_1514 : (Jvm.Cond.instanceMethod ({ cls := "SheGoesOutModel", name := "turns", desc := "(I)Z" } : Jvm.MethodName)) ∈ gw := gw_at 1514 (by decide +kernel) (by decide +kernel)
theorem wm_37 : (Jvm.Cond.selects "SheGoesOutModel" ({ cls := "SheGoesOutModel", name := "turns", desc := "(I)Z" } : Jvm.MethodName) ({ cls := "SheGoesOutModel", name := "turns", desc := "(I)Z" } : Jvm.MethodName)) ∈ gw := gw_at 37 (by decide +kernel) (by decide +kernel)
theorem wm_1515 : (Jvm.Cond.code ({ cls := "SheGoesOutModel", name := "turns", desc := "(I)Z" } : Jvm.MethodName) prog_14_method_57_code (7 : Nat) (Option.some Jvm.ClassFile.FieldType.boolean)) ∈ gw := gw_at 1515 (by decide +kernel) (by decide +kernel)
theorem cv_RX12_290 : gcv RX12 290 yX12_turns cX12_turns 7 (some .boolean) 1 12 := ⟨⟨wm_1512, wm_1514, wm_37, wm_59, wm_1515⟩, ⟨by decide, by decide, by decide +kernel⟩, ⟨_, rfl, rfl⟩⟩
theorem wm_1175 : (Jvm.Cond.fieldLink "SheGoesOutModel" (68 : Nat) "SheGoesOutModel" "bestOrder" "[I") ∈ gw := gw_at 1175 (by decide +kernel) (by decide +kernel)
theorem fk_RX12_68 : gfk RX12 68 12 26 := ⟨RX12, TX12, 42, rfl, inW_X12, by decide, wm_1175⟩
theorem clM_20 : shM[20]? = some (.inr (0, 6)) := rfl
theorem wm_1523 : (Jvm.Cond.constantLong "SheGoesOutModel" (293 : Nat) (99 : Int64)) ∈ gw := gw_at 1523 (by decide +kernel) (by decide +kernel)
theorem wm_1520 : (Jvm.Cond.methodLink "SheGoesOutModel" (295 : Nat) ({ cls := "SheGoesOutModel", name := "isFound", desc := "(JJJ)Z" } : Jvm.MethodName)) ∈ gw := gw_at 1520 (by decide +kernel) (by decide +kernel)
theorem wm_1521 : (Jvm.Cond.static ({ cls := "SheGoesOutModel", name := "isFound", desc := "(JJJ)Z" } : Jvm.MethodName)) ∈ gw := gw_at 1521 (by decide +kernel) (by decide +kernel)
theorem wm_1522 : (Jvm.Cond.code ({ cls := "SheGoesOutModel", name := "isFound", desc := "(JJJ)Z" } : Jvm.MethodName) prog_14_method_59_code (6 : Nat) (Option.some Jvm.ClassFile.FieldType.boolean)) ∈ gw := gw_at 1522 (by decide +kernel) (by decide +kernel)
theorem cs_RX12_295 : gcs RX12 295 yX12_isFound cX12_isFound 6 (some .boolean) 3 := ⟨⟨wm_1520, wm_1521, wm_59, wm_1522⟩, by decide, by decide, by decide +kernel⟩
theorem wm_1177 : (Jvm.Cond.fieldLink "SheGoesOutModel" (71 : Nat) "SheGoesOutModel" "ages" "[I") ∈ gw := gw_at 1177 (by decide +kernel) (by decide +kernel)
theorem fk_RX12_71 : gfk RX12 71 12 28 := ⟨RX12, TX12, 42, rfl, inW_X12, by decide, wm_1177⟩
theorem clM_21 : shM[21]? = some (.inr (0, 60)) := rfl
theorem wm_1178 : (Jvm.Cond.fieldLink "SheGoesOutModel" (74 : Nat) "SheGoesOutModel" "fars" "[I") ∈ gw := gw_at 1178 (by decide +kernel) (by decide +kernel)
theorem fk_RX12_74 : gfk RX12 74 12 29 := ⟨RX12, TX12, 42, rfl, inW_X12, by decide, wm_1178⟩
theorem clM_22 : shM[22]? = some (.inr (0, 60)) := rfl
theorem wm_1179 : (Jvm.Cond.fieldLink "SheGoesOutModel" (77 : Nat) "SheGoesOutModel" "foundKinds" "[I") ∈ gw := gw_at 1179 (by decide +kernel) (by decide +kernel)
theorem fk_RX12_77 : gfk RX12 77 12 30 := ⟨RX12, TX12, 42, rfl, inW_X12, by decide, wm_1179⟩
theorem clM_23 : shM[23]? = some (.inr (0, 60)) := rfl
theorem fp_RX12_237 : gfp RX12 237 12 27 .int := ⟨RX12, TX12, 42, tyX12, rfl, inW_X12, by decide, wm_1176, tyX12_ok, nmX12, rfl, rfl⟩
theorem wm_1524 : (Jvm.Cond.methodLink "SheGoesOutModel" (298 : Nat) ({ cls := "SheGoesOutModel", name := "writes", desc := "(III)V" } : Jvm.MethodName)) ∈ gw := gw_at 1524 (by decide +kernel) (by decide +kernel)
theorem wm_1526 : (Jvm.Cond.instanceMethod ({ cls := "SheGoesOutModel", name := "writes", desc := "(III)V" } : Jvm.MethodName)) ∈ gw := gw_at 1526 (by decide +kernel) (by decide +kernel)
theorem wm_38 : (Jvm.Cond.selects "SheGoesOutModel" ({ cls := "SheGoesOutModel", name := "writes", desc := "(III)V" } : Jvm.MethodName) ({ cls := "SheGoesOutModel", name := "writes", desc := "(III)V" } : Jvm.MethodName)) ∈ gw := gw_at 38 (by decide +kernel) (by decide +kernel)
theorem wm_1527 : (Jvm.Cond.code ({ cls := "SheGoesOutModel", name := "writes", desc := "(III)V" } : Jvm.MethodName) prog_14_method_60_code (4 : Nat) (Option.none : Option Jvm.ClassFile.FieldType)) ∈ gw := gw_at 1527 (by decide +kernel) (by decide +kernel)
theorem cv_RX12_298 : gcv RX12 298 yX12_writes cX12_writes 4 none 3 12 := ⟨⟨wm_1524, wm_1526, wm_38, wm_59, wm_1527⟩, ⟨by decide, by decide, by decide +kernel⟩, ⟨_, rfl, rfl⟩⟩
theorem wm_1536 : (Jvm.Cond.constantLong "SheGoesOutModel" (302 : Nat) (4 : Int64)) ∈ gw := gw_at 1536 (by decide +kernel) (by decide +kernel)
theorem wm_1537 : (Jvm.Cond.methodLink "SheGoesOutModel" (304 : Nat) ({ cls := "SheGoesOutModel", name := "spanOf", desc := "(III)I" } : Jvm.MethodName)) ∈ gw := gw_at 1537 (by decide +kernel) (by decide +kernel)
theorem wm_1539 : (Jvm.Cond.instanceMethod ({ cls := "SheGoesOutModel", name := "spanOf", desc := "(III)I" } : Jvm.MethodName)) ∈ gw := gw_at 1539 (by decide +kernel) (by decide +kernel)
theorem wm_39 : (Jvm.Cond.selects "SheGoesOutModel" ({ cls := "SheGoesOutModel", name := "spanOf", desc := "(III)I" } : Jvm.MethodName) ({ cls := "SheGoesOutModel", name := "spanOf", desc := "(III)I" } : Jvm.MethodName)) ∈ gw := gw_at 39 (by decide +kernel) (by decide +kernel)
theorem wm_1540 : (Jvm.Cond.code ({ cls := "SheGoesOutModel", name := "spanOf", desc := "(III)I" } : Jvm.MethodName) prog_14_method_63_code (9 : Nat) (Option.some Jvm.ClassFile.FieldType.int)) ∈ gw := gw_at 1540 (by decide +kernel) (by decide +kernel)
theorem cv_RX12_304 : gcv RX12 304 yX12_spanOf cX12_spanOf 9 (some .int) 3 12 := ⟨⟨wm_1537, wm_1539, wm_39, wm_59, wm_1540⟩, ⟨by decide, by decide, by decide +kernel⟩, ⟨_, rfl, rfl⟩⟩
theorem wm_1181 : (Jvm.Cond.fieldLink "SheGoesOutModel" (80 : Nat) "SheGoesOutModel" "keeps" "[I") ∈ gw := gw_at 1181 (by decide +kernel) (by decide +kernel)
theorem fk_RX12_80 : gfk RX12 80 12 32 := ⟨RX12, TX12, 42, rfl, inW_X12, by decide, wm_1181⟩
theorem clM_24 : shM[24]? = some (.inr (0, 8)) := rfl
theorem wm_1182 : (Jvm.Cond.fieldLink "SheGoesOutModel" (83 : Nat) "SheGoesOutModel" "shuts" "[I") ∈ gw := gw_at 1182 (by decide +kernel) (by decide +kernel)
theorem fk_RX12_83 : gfk RX12 83 12 33 := ⟨RX12, TX12, 42, rfl, inW_X12, by decide, wm_1182⟩
theorem clM_25 : shM[25]? = some (.inr (0, 8)) := rfl
theorem fp_RX12_240 : gfp RX12 240 12 31 .int := ⟨RX12, TX12, 42, tyX12, rfl, inW_X12, by decide, wm_1180, tyX12_ok, nmX12, rfl, rfl⟩
theorem wm_1553 : (Jvm.Cond.methodLink "SheGoesOutModel" (307 : Nat) ({ cls := "SheGoesOutModel", name := "leavesOf", desc := "(I)J" } : Jvm.MethodName)) ∈ gw := gw_at 1553 (by decide +kernel) (by decide +kernel)
theorem wm_1555 : (Jvm.Cond.instanceMethod ({ cls := "SheGoesOutModel", name := "leavesOf", desc := "(I)J" } : Jvm.MethodName)) ∈ gw := gw_at 1555 (by decide +kernel) (by decide +kernel)
theorem wm_40 : (Jvm.Cond.selects "SheGoesOutModel" ({ cls := "SheGoesOutModel", name := "leavesOf", desc := "(I)J" } : Jvm.MethodName) ({ cls := "SheGoesOutModel", name := "leavesOf", desc := "(I)J" } : Jvm.MethodName)) ∈ gw := gw_at 40 (by decide +kernel) (by decide +kernel)
theorem wm_1556 : (Jvm.Cond.code ({ cls := "SheGoesOutModel", name := "leavesOf", desc := "(I)J" } : Jvm.MethodName) prog_14_method_67_code (5 : Nat) (Option.some Jvm.ClassFile.FieldType.long)) ∈ gw := gw_at 1556 (by decide +kernel) (by decide +kernel)
theorem cv_RX12_307 : gcv RX12 307 yX12_leavesOf cX12_leavesOf 5 (some .long) 1 12 := ⟨⟨wm_1553, wm_1555, wm_40, wm_59, wm_1556⟩, ⟨by decide, by decide, by decide +kernel⟩, ⟨_, rfl, rfl⟩⟩
theorem wm_1183 : (Jvm.Cond.fieldLink "SheGoesOutModel" (86 : Nat) "SheGoesOutModel" "houses" "[I") ∈ gw := gw_at 1183 (by decide +kernel) (by decide +kernel)
theorem fk_RX12_86 : gfk RX12 86 12 34 := ⟨RX12, TX12, 42, rfl, inW_X12, by decide, wm_1183⟩
theorem clM_26 : shM[26]? = some (.inr (0, 10)) := rfl
theorem wm_1565 : (Jvm.Cond.methodLink "SheGoesOutModel" (310 : Nat) ({ cls := "SheGoesOutModel", name := "netOf", desc := "(II)J" } : Jvm.MethodName)) ∈ gw := gw_at 1565 (by decide +kernel) (by decide +kernel)
theorem wm_1567 : (Jvm.Cond.instanceMethod ({ cls := "SheGoesOutModel", name := "netOf", desc := "(II)J" } : Jvm.MethodName)) ∈ gw := gw_at 1567 (by decide +kernel) (by decide +kernel)
theorem wm_41 : (Jvm.Cond.selects "SheGoesOutModel" ({ cls := "SheGoesOutModel", name := "netOf", desc := "(II)J" } : Jvm.MethodName) ({ cls := "SheGoesOutModel", name := "netOf", desc := "(II)J" } : Jvm.MethodName)) ∈ gw := gw_at 41 (by decide +kernel) (by decide +kernel)
theorem wm_1568 : (Jvm.Cond.code ({ cls := "SheGoesOutModel", name := "netOf", desc := "(II)J" } : Jvm.MethodName) prog_14_method_70_code (8 : Nat) (Option.some Jvm.ClassFile.FieldType.long)) ∈ gw := gw_at 1568 (by decide +kernel) (by decide +kernel)
theorem cv_RX12_310 : gcv RX12 310 yX12_netOf cX12_netOf 8 (some .long) 2 12 := ⟨⟨wm_1565, wm_1567, wm_41, wm_59, wm_1568⟩, ⟨by decide, by decide, by decide +kernel⟩, ⟨_, rfl, rfl⟩⟩
theorem wm_1569 : (Jvm.Cond.methodLink "SheGoesOutModel" (313 : Nat) ({ cls := "SheGoesOutModel", name := "isAhead", desc := "(II)Z" } : Jvm.MethodName)) ∈ gw := gw_at 1569 (by decide +kernel) (by decide +kernel)
theorem wm_1570 : (Jvm.Cond.static ({ cls := "SheGoesOutModel", name := "isAhead", desc := "(II)Z" } : Jvm.MethodName)) ∈ gw := gw_at 1570 (by decide +kernel) (by decide +kernel)
theorem wm_1571 : (Jvm.Cond.code ({ cls := "SheGoesOutModel", name := "isAhead", desc := "(II)Z" } : Jvm.MethodName) prog_14_method_71_code (3 : Nat) (Option.some Jvm.ClassFile.FieldType.boolean)) ∈ gw := gw_at 1571 (by decide +kernel) (by decide +kernel)
theorem cs_RX12_313 : gcs RX12 313 yX12_isAhead cX12_isAhead 3 (some .boolean) 2 := ⟨⟨wm_1569, wm_1570, wm_59, wm_1571⟩, by decide, by decide, by decide +kernel⟩
theorem wm_1186 : (Jvm.Cond.fieldLink "SheGoesOutModel" (321 : Nat) "SheGoesOutModel" "isImage" "Z") ∈ gw := gw_at 1186 (by decide +kernel) (by decide +kernel)
theorem fp_RX12_321 : gfp RX12 321 12 37 .boolean := ⟨RX12, TX12, 42, tyX12, rfl, inW_X12, by decide, wm_1186, tyX12_ok, nmX12, rfl, rfl⟩
theorem wm_1185 : (Jvm.Cond.fieldLink "SheGoesOutModel" (92 : Nat) "SheGoesOutModel" "imageParts" "[J") ∈ gw := gw_at 1185 (by decide +kernel) (by decide +kernel)
theorem fk_RX12_92 : gfk RX12 92 12 36 := ⟨RX12, TX12, 42, rfl, inW_X12, by decide, wm_1185⟩
theorem clM_28 : shM[28]? = some (.inr (1, 720)) := rfl
theorem wm_1184 : (Jvm.Cond.fieldLink "SheGoesOutModel" (89 : Nat) "SheGoesOutModel" "image" "[I") ∈ gw := gw_at 1184 (by decide +kernel) (by decide +kernel)
theorem fk_RX12_89 : gfk RX12 89 12 35 := ⟨RX12, TX12, 42, rfl, inW_X12, by decide, wm_1184⟩
theorem clM_27 : shM[27]? = some (.inr (0, 760)) := rfl
theorem wm_1580 : (Jvm.Cond.methodLink "SheGoesOutModel" (317 : Nat) ({ cls := "SheGoesOutModel", name := "lay", desc := "([II)I" } : Jvm.MethodName)) ∈ gw := gw_at 1580 (by decide +kernel) (by decide +kernel)
theorem wm_1582 : (Jvm.Cond.instanceMethod ({ cls := "SheGoesOutModel", name := "lay", desc := "([II)I" } : Jvm.MethodName)) ∈ gw := gw_at 1582 (by decide +kernel) (by decide +kernel)
theorem wm_42 : (Jvm.Cond.selects "SheGoesOutModel" ({ cls := "SheGoesOutModel", name := "lay", desc := "([II)I" } : Jvm.MethodName) ({ cls := "SheGoesOutModel", name := "lay", desc := "([II)I" } : Jvm.MethodName)) ∈ gw := gw_at 42 (by decide +kernel) (by decide +kernel)
theorem wm_1583 : (Jvm.Cond.code ({ cls := "SheGoesOutModel", name := "lay", desc := "([II)I" } : Jvm.MethodName) prog_14_method_74_code (4 : Nat) (Option.some Jvm.ClassFile.FieldType.int)) ∈ gw := gw_at 1583 (by decide +kernel) (by decide +kernel)
theorem cv_RX12_317 : gcv RX12 317 yX12_lay cX12_lay 4 (some .int) 2 12 := ⟨⟨wm_1580, wm_1582, wm_42, wm_59, wm_1583⟩, ⟨by decide, by decide, by decide +kernel⟩, ⟨_, rfl, rfl⟩⟩
theorem fk_RX12_321 : gfk RX12 321 12 37 := ⟨RX12, TX12, 42, rfl, inW_X12, by decide, wm_1186⟩
theorem wm_1588 : (Jvm.Cond.methodLink "SheGoesOutModel" (324 : Nat) ({ cls := "SheGoesOutModel", name := "gives", desc := "(I[I)I" } : Jvm.MethodName)) ∈ gw := gw_at 1588 (by decide +kernel) (by decide +kernel)
theorem wm_1590 : (Jvm.Cond.instanceMethod ({ cls := "SheGoesOutModel", name := "gives", desc := "(I[I)I" } : Jvm.MethodName)) ∈ gw := gw_at 1590 (by decide +kernel) (by decide +kernel)
theorem wm_43 : (Jvm.Cond.selects "SheGoesOutModel" ({ cls := "SheGoesOutModel", name := "gives", desc := "(I[I)I" } : Jvm.MethodName) ({ cls := "SheGoesOutModel", name := "gives", desc := "(I[I)I" } : Jvm.MethodName)) ∈ gw := gw_at 43 (by decide +kernel) (by decide +kernel)
theorem wm_1591 : (Jvm.Cond.code ({ cls := "SheGoesOutModel", name := "gives", desc := "(I[I)I" } : Jvm.MethodName) prog_14_method_75_code (4 : Nat) (Option.some Jvm.ClassFile.FieldType.int)) ∈ gw := gw_at 1591 (by decide +kernel) (by decide +kernel)
theorem cv_RX12_324 : gcv RX12 324 yX12_gives cX12_gives 4 (some .int) 2 12 := ⟨⟨wm_1588, wm_1590, wm_43, wm_59, wm_1591⟩, ⟨by decide, by decide, by decide +kernel⟩, ⟨_, rfl, rfl⟩⟩
theorem wm_1189 : (Jvm.Cond.fieldLink "SheGoesOutModel" (101 : Nat) "SheGoesOutModel" "items" "[J") ∈ gw := gw_at 1189 (by decide +kernel) (by decide +kernel)
theorem fk_RX12_101 : gfk RX12 101 12 40 := ⟨RX12, TX12, 42, rfl, inW_X12, by decide, wm_1189⟩
theorem clM_31 : shM[31]? = some (.inr (1, 96)) := rfl
theorem wm_1596 : (Jvm.Cond.methodLink "SheGoesOutModel" (328 : Nat) ({ cls := "SheGoesOutModel", name := "isSheet", desc := "(I)Z" } : Jvm.MethodName)) ∈ gw := gw_at 1596 (by decide +kernel) (by decide +kernel)
theorem wm_1597 : (Jvm.Cond.static ({ cls := "SheGoesOutModel", name := "isSheet", desc := "(I)Z" } : Jvm.MethodName)) ∈ gw := gw_at 1597 (by decide +kernel) (by decide +kernel)
theorem wm_1598 : (Jvm.Cond.code ({ cls := "SheGoesOutModel", name := "isSheet", desc := "(I)Z" } : Jvm.MethodName) prog_14_method_78_code (1 : Nat) (Option.some Jvm.ClassFile.FieldType.boolean)) ∈ gw := gw_at 1598 (by decide +kernel) (by decide +kernel)
theorem cs_RX12_328 : gcs RX12 328 yX12_isSheet cX12_isSheet 1 (some .boolean) 1 := ⟨⟨wm_1596, wm_1597, wm_59, wm_1598⟩, by decide, by decide, by decide +kernel⟩
theorem wm_1599 : (Jvm.Cond.methodLink "SheGoesOutModel" (331 : Nat) ({ cls := "SheGoesOutModel", name := "isLane", desc := "(I)Z" } : Jvm.MethodName)) ∈ gw := gw_at 1599 (by decide +kernel) (by decide +kernel)
theorem wm_1600 : (Jvm.Cond.static ({ cls := "SheGoesOutModel", name := "isLane", desc := "(I)Z" } : Jvm.MethodName)) ∈ gw := gw_at 1600 (by decide +kernel) (by decide +kernel)
theorem wm_1601 : (Jvm.Cond.code ({ cls := "SheGoesOutModel", name := "isLane", desc := "(I)Z" } : Jvm.MethodName) prog_14_method_79_code (1 : Nat) (Option.some Jvm.ClassFile.FieldType.boolean)) ∈ gw := gw_at 1601 (by decide +kernel) (by decide +kernel)
theorem cs_RX12_331 : gcs RX12 331 yX12_isLane cX12_isLane 1 (some .boolean) 1 := ⟨⟨wm_1599, wm_1600, wm_59, wm_1601⟩, by decide, by decide, by decide +kernel⟩
theorem wm_1187 : (Jvm.Cond.fieldLink "SheGoesOutModel" (95 : Nat) "SheGoesOutModel" "lanes" "[I") ∈ gw := gw_at 1187 (by decide +kernel) (by decide +kernel)
theorem fk_RX12_95 : gfk RX12 95 12 38 := ⟨RX12, TX12, 42, rfl, inW_X12, by decide, wm_1187⟩
theorem clM_29 : shM[29]? = some (.inr (0, 4)) := rfl
theorem wm_1188 : (Jvm.Cond.fieldLink "SheGoesOutModel" (98 : Nat) "SheGoesOutModel" "sizes" "[I") ∈ gw := gw_at 1188 (by decide +kernel) (by decide +kernel)
theorem fk_RX12_98 : gfk RX12 98 12 39 := ⟨RX12, TX12, 42, rfl, inW_X12, by decide, wm_1188⟩
theorem clM_30 : shM[30]? = some (.inr (0, 4)) := rfl
theorem wm_1602 : (Jvm.Cond.methodLink "SheGoesOutModel" (334 : Nat) ({ cls := "SheGoesOutModel", name := "why", desc := "(IIII)I" } : Jvm.MethodName)) ∈ gw := gw_at 1602 (by decide +kernel) (by decide +kernel)
theorem wm_1604 : (Jvm.Cond.instanceMethod ({ cls := "SheGoesOutModel", name := "why", desc := "(IIII)I" } : Jvm.MethodName)) ∈ gw := gw_at 1604 (by decide +kernel) (by decide +kernel)
theorem wm_44 : (Jvm.Cond.selects "SheGoesOutModel" ({ cls := "SheGoesOutModel", name := "why", desc := "(IIII)I" } : Jvm.MethodName) ({ cls := "SheGoesOutModel", name := "why", desc := "(IIII)I" } : Jvm.MethodName)) ∈ gw := gw_at 44 (by decide +kernel) (by decide +kernel)
theorem wm_1605 : (Jvm.Cond.code ({ cls := "SheGoesOutModel", name := "why", desc := "(IIII)I" } : Jvm.MethodName) prog_14_method_80_code (5 : Nat) (Option.some Jvm.ClassFile.FieldType.int)) ∈ gw := gw_at 1605 (by decide +kernel) (by decide +kernel)
theorem cv_RX12_334 : gcv RX12 334 yX12_why cX12_why 5 (some .int) 4 12 := ⟨⟨wm_1602, wm_1604, wm_44, wm_59, wm_1605⟩, ⟨by decide, by decide, by decide +kernel⟩, ⟨_, rfl, rfl⟩⟩
theorem wm_1610 : (Jvm.Cond.methodLink "SheGoesOutModel" (338 : Nat) ({ cls := "SheGoesOutModel", name := "puts", desc := "(IIJ)V" } : Jvm.MethodName)) ∈ gw := gw_at 1610 (by decide +kernel) (by decide +kernel)
theorem wm_1612 : (Jvm.Cond.instanceMethod ({ cls := "SheGoesOutModel", name := "puts", desc := "(IIJ)V" } : Jvm.MethodName)) ∈ gw := gw_at 1612 (by decide +kernel) (by decide +kernel)
theorem wm_45 : (Jvm.Cond.selects "SheGoesOutModel" ({ cls := "SheGoesOutModel", name := "puts", desc := "(IIJ)V" } : Jvm.MethodName) ({ cls := "SheGoesOutModel", name := "puts", desc := "(IIJ)V" } : Jvm.MethodName)) ∈ gw := gw_at 45 (by decide +kernel) (by decide +kernel)
theorem wm_1613 : (Jvm.Cond.code ({ cls := "SheGoesOutModel", name := "puts", desc := "(IIJ)V" } : Jvm.MethodName) prog_14_method_82_code (6 : Nat) (Option.none : Option Jvm.ClassFile.FieldType)) ∈ gw := gw_at 1613 (by decide +kernel) (by decide +kernel)
theorem cv_RX12_338 : gcv RX12 338 yX12_puts cX12_puts 6 none 3 12 := ⟨⟨wm_1610, wm_1612, wm_45, wm_59, wm_1613⟩, ⟨by decide, by decide, by decide +kernel⟩, ⟨_, rfl, rfl⟩⟩
theorem wm_1190 : (Jvm.Cond.fieldLink "SheGoesOutModel" (104 : Nat) "SheGoesOutModel" "moved" "[J") ∈ gw := gw_at 1190 (by decide +kernel) (by decide +kernel)
theorem fk_RX12_104 : gfk RX12 104 12 41 := ⟨RX12, TX12, 42, rfl, inW_X12, by decide, wm_1190⟩
theorem clM_32 : shM[32]? = some (.inr (1, 24)) := rfl
