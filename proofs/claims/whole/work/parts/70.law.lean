/-! the law -/
theorem wm_377 : (Jvm.Cond.methodLink "SheGoesOutLaw" (13 : Nat) ({ cls := "SheGoesOut", name := "kind", desc := "(II)I" } : Jvm.MethodName)) ∈ gw := gw_at 377 (by decide +kernel) (by decide +kernel)
theorem wm_378 : (Jvm.Cond.instanceMethod ({ cls := "SheGoesOut", name := "kind", desc := "(II)I" } : Jvm.MethodName)) ∈ gw := gw_at 378 (by decide +kernel) (by decide +kernel)
theorem wm_379 : (Jvm.Cond.selects "SheGoesOut" ({ cls := "SheGoesOut", name := "kind", desc := "(II)I" } : Jvm.MethodName) ({ cls := "SheGoesOut", name := "kind", desc := "(II)I" } : Jvm.MethodName)) ∈ gw := gw_at 379 (by decide +kernel) (by decide +kernel)
theorem wm_380 : (Jvm.Cond.code ({ cls := "SheGoesOut", name := "kind", desc := "(II)I" } : Jvm.MethodName) prog_1_method_2_code (4 : Nat) (Option.some Jvm.ClassFile.FieldType.int)) ∈ gw := gw_at 380 (by decide +kernel) (by decide +kernel)
theorem cv_RL_13 : gcv RL 13 yX11_kind cX11_kind 4 (some .int) 2 11 := ⟨⟨wm_377, wm_378, wm_379, wm_47, wm_380⟩, ⟨by decide, by decide, by decide +kernel⟩, ⟨_, rfl, rfl⟩⟩
theorem wm_1297 : (Jvm.Cond.methodLink "SheGoesOutLaw" (17 : Nat) ({ cls := "SheGoesOutModel", name := "kind", desc := "(II)I" } : Jvm.MethodName)) ∈ gw := gw_at 1297 (by decide +kernel) (by decide +kernel)
theorem wm_1298 : (Jvm.Cond.instanceMethod ({ cls := "SheGoesOutModel", name := "kind", desc := "(II)I" } : Jvm.MethodName)) ∈ gw := gw_at 1298 (by decide +kernel) (by decide +kernel)
theorem wm_1299 : (Jvm.Cond.selects "SheGoesOutModel" ({ cls := "SheGoesOutModel", name := "kind", desc := "(II)I" } : Jvm.MethodName) ({ cls := "SheGoesOutModel", name := "kind", desc := "(II)I" } : Jvm.MethodName)) ∈ gw := gw_at 1299 (by decide +kernel) (by decide +kernel)
theorem wm_1300 : (Jvm.Cond.code ({ cls := "SheGoesOutModel", name := "kind", desc := "(II)I" } : Jvm.MethodName) prog_14_method_9_code (4 : Nat) (Option.some Jvm.ClassFile.FieldType.int)) ∈ gw := gw_at 1300 (by decide +kernel) (by decide +kernel)
theorem cv_RL_17 : gcv RL 17 yX12_kind cX12_kind 4 (some .int) 2 12 := ⟨⟨wm_1297, wm_1298, wm_1299, wm_59, wm_1300⟩, ⟨by decide, by decide, by decide +kernel⟩, ⟨_, rfl, rfl⟩⟩
theorem wm_398 : (Jvm.Cond.methodLink "SheGoesOutLaw" (18 : Nat) ({ cls := "SheGoesOut", name := "draw", desc := "(II)I" } : Jvm.MethodName)) ∈ gw := gw_at 398 (by decide +kernel) (by decide +kernel)
theorem wm_399 : (Jvm.Cond.instanceMethod ({ cls := "SheGoesOut", name := "draw", desc := "(II)I" } : Jvm.MethodName)) ∈ gw := gw_at 399 (by decide +kernel) (by decide +kernel)
theorem wm_400 : (Jvm.Cond.selects "SheGoesOut" ({ cls := "SheGoesOut", name := "draw", desc := "(II)I" } : Jvm.MethodName) ({ cls := "SheGoesOut", name := "draw", desc := "(II)I" } : Jvm.MethodName)) ∈ gw := gw_at 400 (by decide +kernel) (by decide +kernel)
theorem wm_401 : (Jvm.Cond.code ({ cls := "SheGoesOut", name := "draw", desc := "(II)I" } : Jvm.MethodName) prog_1_method_3_code (4 : Nat) (Option.some Jvm.ClassFile.FieldType.int)) ∈ gw := gw_at 401 (by decide +kernel) (by decide +kernel)
theorem cv_RL_18 : gcv RL 18 yX11_draw cX11_draw 4 (some .int) 2 11 := ⟨⟨wm_398, wm_399, wm_400, wm_47, wm_401⟩, ⟨by decide, by decide, by decide +kernel⟩, ⟨_, rfl, rfl⟩⟩
theorem wm_1309 : (Jvm.Cond.methodLink "SheGoesOutLaw" (21 : Nat) ({ cls := "SheGoesOutModel", name := "draw", desc := "(II)I" } : Jvm.MethodName)) ∈ gw := gw_at 1309 (by decide +kernel) (by decide +kernel)
theorem wm_1310 : (Jvm.Cond.instanceMethod ({ cls := "SheGoesOutModel", name := "draw", desc := "(II)I" } : Jvm.MethodName)) ∈ gw := gw_at 1310 (by decide +kernel) (by decide +kernel)
theorem wm_1311 : (Jvm.Cond.selects "SheGoesOutModel" ({ cls := "SheGoesOutModel", name := "draw", desc := "(II)I" } : Jvm.MethodName) ({ cls := "SheGoesOutModel", name := "draw", desc := "(II)I" } : Jvm.MethodName)) ∈ gw := gw_at 1311 (by decide +kernel) (by decide +kernel)
theorem wm_1312 : (Jvm.Cond.code ({ cls := "SheGoesOutModel", name := "draw", desc := "(II)I" } : Jvm.MethodName) prog_14_method_10_code (4 : Nat) (Option.some Jvm.ClassFile.FieldType.int)) ∈ gw := gw_at 1312 (by decide +kernel) (by decide +kernel)
theorem cv_RL_21 : gcv RL 21 yX12_draw cX12_draw 4 (some .int) 2 12 := ⟨⟨wm_1309, wm_1310, wm_1311, wm_59, wm_1312⟩, ⟨by decide, by decide, by decide +kernel⟩, ⟨_, rfl, rfl⟩⟩
theorem wm_402 : (Jvm.Cond.methodLink "SheGoesOutLaw" (22 : Nat) ({ cls := "SheGoesOut", name := "told", desc := "(II)I" } : Jvm.MethodName)) ∈ gw := gw_at 402 (by decide +kernel) (by decide +kernel)
theorem wm_403 : (Jvm.Cond.instanceMethod ({ cls := "SheGoesOut", name := "told", desc := "(II)I" } : Jvm.MethodName)) ∈ gw := gw_at 403 (by decide +kernel) (by decide +kernel)
theorem wm_404 : (Jvm.Cond.selects "SheGoesOut" ({ cls := "SheGoesOut", name := "told", desc := "(II)I" } : Jvm.MethodName) ({ cls := "SheGoesOut", name := "told", desc := "(II)I" } : Jvm.MethodName)) ∈ gw := gw_at 404 (by decide +kernel) (by decide +kernel)
theorem wm_405 : (Jvm.Cond.code ({ cls := "SheGoesOut", name := "told", desc := "(II)I" } : Jvm.MethodName) prog_1_method_4_code (3 : Nat) (Option.some Jvm.ClassFile.FieldType.int)) ∈ gw := gw_at 405 (by decide +kernel) (by decide +kernel)
theorem cv_RL_22 : gcv RL 22 yX11_told cX11_told 3 (some .int) 2 11 := ⟨⟨wm_402, wm_403, wm_404, wm_47, wm_405⟩, ⟨by decide, by decide, by decide +kernel⟩, ⟨_, rfl, rfl⟩⟩
theorem wm_1314 : (Jvm.Cond.methodLink "SheGoesOutLaw" (25 : Nat) ({ cls := "SheGoesOutModel", name := "told", desc := "(II)I" } : Jvm.MethodName)) ∈ gw := gw_at 1314 (by decide +kernel) (by decide +kernel)
theorem wm_1315 : (Jvm.Cond.instanceMethod ({ cls := "SheGoesOutModel", name := "told", desc := "(II)I" } : Jvm.MethodName)) ∈ gw := gw_at 1315 (by decide +kernel) (by decide +kernel)
theorem wm_1316 : (Jvm.Cond.selects "SheGoesOutModel" ({ cls := "SheGoesOutModel", name := "told", desc := "(II)I" } : Jvm.MethodName) ({ cls := "SheGoesOutModel", name := "told", desc := "(II)I" } : Jvm.MethodName)) ∈ gw := gw_at 1316 (by decide +kernel) (by decide +kernel)
theorem wm_1317 : (Jvm.Cond.code ({ cls := "SheGoesOutModel", name := "told", desc := "(II)I" } : Jvm.MethodName) prog_14_method_11_code (3 : Nat) (Option.some Jvm.ClassFile.FieldType.int)) ∈ gw := gw_at 1317 (by decide +kernel) (by decide +kernel)
theorem cv_RL_25 : gcv RL 25 yX12_told cX12_told 3 (some .int) 2 12 := ⟨⟨wm_1314, wm_1315, wm_1316, wm_59, wm_1317⟩, ⟨by decide, by decide, by decide +kernel⟩, ⟨_, rfl, rfl⟩⟩
theorem wm_406 : (Jvm.Cond.methodLink "SheGoesOutLaw" (26 : Nat) ({ cls := "SheGoesOut", name := "set", desc := "(II)I" } : Jvm.MethodName)) ∈ gw := gw_at 406 (by decide +kernel) (by decide +kernel)
theorem wm_407 : (Jvm.Cond.instanceMethod ({ cls := "SheGoesOut", name := "set", desc := "(II)I" } : Jvm.MethodName)) ∈ gw := gw_at 407 (by decide +kernel) (by decide +kernel)
theorem wm_408 : (Jvm.Cond.selects "SheGoesOut" ({ cls := "SheGoesOut", name := "set", desc := "(II)I" } : Jvm.MethodName) ({ cls := "SheGoesOut", name := "set", desc := "(II)I" } : Jvm.MethodName)) ∈ gw := gw_at 408 (by decide +kernel) (by decide +kernel)
theorem wm_409 : (Jvm.Cond.code ({ cls := "SheGoesOut", name := "set", desc := "(II)I" } : Jvm.MethodName) prog_1_method_5_code (4 : Nat) (Option.some Jvm.ClassFile.FieldType.int)) ∈ gw := gw_at 409 (by decide +kernel) (by decide +kernel)
theorem cv_RL_26 : gcv RL 26 yX11_set cX11_set 4 (some .int) 2 11 := ⟨⟨wm_406, wm_407, wm_408, wm_47, wm_409⟩, ⟨by decide, by decide, by decide +kernel⟩, ⟨_, rfl, rfl⟩⟩
theorem wm_1319 : (Jvm.Cond.methodLink "SheGoesOutLaw" (29 : Nat) ({ cls := "SheGoesOutModel", name := "set", desc := "(II)I" } : Jvm.MethodName)) ∈ gw := gw_at 1319 (by decide +kernel) (by decide +kernel)
theorem wm_1320 : (Jvm.Cond.instanceMethod ({ cls := "SheGoesOutModel", name := "set", desc := "(II)I" } : Jvm.MethodName)) ∈ gw := gw_at 1320 (by decide +kernel) (by decide +kernel)
theorem wm_1321 : (Jvm.Cond.selects "SheGoesOutModel" ({ cls := "SheGoesOutModel", name := "set", desc := "(II)I" } : Jvm.MethodName) ({ cls := "SheGoesOutModel", name := "set", desc := "(II)I" } : Jvm.MethodName)) ∈ gw := gw_at 1321 (by decide +kernel) (by decide +kernel)
theorem wm_1322 : (Jvm.Cond.code ({ cls := "SheGoesOutModel", name := "set", desc := "(II)I" } : Jvm.MethodName) prog_14_method_12_code (4 : Nat) (Option.some Jvm.ClassFile.FieldType.int)) ∈ gw := gw_at 1322 (by decide +kernel) (by decide +kernel)
theorem cv_RL_29 : gcv RL 29 yX12_set cX12_set 4 (some .int) 2 12 := ⟨⟨wm_1319, wm_1320, wm_1321, wm_59, wm_1322⟩, ⟨by decide, by decide, by decide +kernel⟩, ⟨_, rfl, rfl⟩⟩
theorem wm_413 : (Jvm.Cond.methodLink "SheGoesOutLaw" (30 : Nat) ({ cls := "SheGoesOut", name := "sits", desc := "(II)I" } : Jvm.MethodName)) ∈ gw := gw_at 413 (by decide +kernel) (by decide +kernel)
theorem wm_414 : (Jvm.Cond.instanceMethod ({ cls := "SheGoesOut", name := "sits", desc := "(II)I" } : Jvm.MethodName)) ∈ gw := gw_at 414 (by decide +kernel) (by decide +kernel)
theorem wm_415 : (Jvm.Cond.selects "SheGoesOut" ({ cls := "SheGoesOut", name := "sits", desc := "(II)I" } : Jvm.MethodName) ({ cls := "SheGoesOut", name := "sits", desc := "(II)I" } : Jvm.MethodName)) ∈ gw := gw_at 415 (by decide +kernel) (by decide +kernel)
theorem wm_416 : (Jvm.Cond.code ({ cls := "SheGoesOut", name := "sits", desc := "(II)I" } : Jvm.MethodName) prog_1_method_6_code (4 : Nat) (Option.some Jvm.ClassFile.FieldType.int)) ∈ gw := gw_at 416 (by decide +kernel) (by decide +kernel)
theorem cv_RL_30 : gcv RL 30 yX11_sits cX11_sits 4 (some .int) 2 11 := ⟨⟨wm_413, wm_414, wm_415, wm_47, wm_416⟩, ⟨by decide, by decide, by decide +kernel⟩, ⟨_, rfl, rfl⟩⟩
theorem wm_1325 : (Jvm.Cond.methodLink "SheGoesOutLaw" (33 : Nat) ({ cls := "SheGoesOutModel", name := "sits", desc := "(II)I" } : Jvm.MethodName)) ∈ gw := gw_at 1325 (by decide +kernel) (by decide +kernel)
theorem wm_1326 : (Jvm.Cond.instanceMethod ({ cls := "SheGoesOutModel", name := "sits", desc := "(II)I" } : Jvm.MethodName)) ∈ gw := gw_at 1326 (by decide +kernel) (by decide +kernel)
theorem wm_1327 : (Jvm.Cond.selects "SheGoesOutModel" ({ cls := "SheGoesOutModel", name := "sits", desc := "(II)I" } : Jvm.MethodName) ({ cls := "SheGoesOutModel", name := "sits", desc := "(II)I" } : Jvm.MethodName)) ∈ gw := gw_at 1327 (by decide +kernel) (by decide +kernel)
theorem wm_1328 : (Jvm.Cond.code ({ cls := "SheGoesOutModel", name := "sits", desc := "(II)I" } : Jvm.MethodName) prog_14_method_13_code (4 : Nat) (Option.some Jvm.ClassFile.FieldType.int)) ∈ gw := gw_at 1328 (by decide +kernel) (by decide +kernel)
theorem cv_RL_33 : gcv RL 33 yX12_sits cX12_sits 4 (some .int) 2 12 := ⟨⟨wm_1325, wm_1326, wm_1327, wm_59, wm_1328⟩, ⟨by decide, by decide, by decide +kernel⟩, ⟨_, rfl, rfl⟩⟩
theorem wm_1630 : (Jvm.Cond.constantLong "SheGoesOutLaw" (34 : Nat) (4294967295 : Int64)) ∈ gw := gw_at 1630 (by decide +kernel) (by decide +kernel)
theorem wm_417 : (Jvm.Cond.methodLink "SheGoesOutLaw" (36 : Nat) ({ cls := "SheGoesOut", name := "type", desc := "(JI)I" } : Jvm.MethodName)) ∈ gw := gw_at 417 (by decide +kernel) (by decide +kernel)
theorem wm_418 : (Jvm.Cond.instanceMethod ({ cls := "SheGoesOut", name := "type", desc := "(JI)I" } : Jvm.MethodName)) ∈ gw := gw_at 418 (by decide +kernel) (by decide +kernel)
theorem wm_419 : (Jvm.Cond.selects "SheGoesOut" ({ cls := "SheGoesOut", name := "type", desc := "(JI)I" } : Jvm.MethodName) ({ cls := "SheGoesOut", name := "type", desc := "(JI)I" } : Jvm.MethodName)) ∈ gw := gw_at 419 (by decide +kernel) (by decide +kernel)
theorem wm_420 : (Jvm.Cond.code ({ cls := "SheGoesOut", name := "type", desc := "(JI)I" } : Jvm.MethodName) prog_1_method_7_code (4 : Nat) (Option.some Jvm.ClassFile.FieldType.int)) ∈ gw := gw_at 420 (by decide +kernel) (by decide +kernel)
theorem cv_RL_36 : gcv RL 36 yX11_type cX11_type 4 (some .int) 2 11 := ⟨⟨wm_417, wm_418, wm_419, wm_47, wm_420⟩, ⟨by decide, by decide, by decide +kernel⟩, ⟨_, rfl, rfl⟩⟩
theorem wm_1329 : (Jvm.Cond.methodLink "SheGoesOutLaw" (40 : Nat) ({ cls := "SheGoesOutModel", name := "type", desc := "(JI)I" } : Jvm.MethodName)) ∈ gw := gw_at 1329 (by decide +kernel) (by decide +kernel)
theorem wm_1330 : (Jvm.Cond.instanceMethod ({ cls := "SheGoesOutModel", name := "type", desc := "(JI)I" } : Jvm.MethodName)) ∈ gw := gw_at 1330 (by decide +kernel) (by decide +kernel)
theorem wm_1331 : (Jvm.Cond.selects "SheGoesOutModel" ({ cls := "SheGoesOutModel", name := "type", desc := "(JI)I" } : Jvm.MethodName) ({ cls := "SheGoesOutModel", name := "type", desc := "(JI)I" } : Jvm.MethodName)) ∈ gw := gw_at 1331 (by decide +kernel) (by decide +kernel)
theorem wm_1332 : (Jvm.Cond.code ({ cls := "SheGoesOutModel", name := "type", desc := "(JI)I" } : Jvm.MethodName) prog_14_method_14_code (5 : Nat) (Option.some Jvm.ClassFile.FieldType.int)) ∈ gw := gw_at 1332 (by decide +kernel) (by decide +kernel)
theorem cv_RL_40 : gcv RL 40 yX12_type cX12_type 5 (some .int) 2 12 := ⟨⟨wm_1329, wm_1330, wm_1331, wm_59, wm_1332⟩, ⟨by decide, by decide, by decide +kernel⟩, ⟨_, rfl, rfl⟩⟩
theorem wm_436 : (Jvm.Cond.methodLink "SheGoesOutLaw" (41 : Nat) ({ cls := "SheGoesOut", name := "land", desc := "()I" } : Jvm.MethodName)) ∈ gw := gw_at 436 (by decide +kernel) (by decide +kernel)
theorem wm_437 : (Jvm.Cond.instanceMethod ({ cls := "SheGoesOut", name := "land", desc := "()I" } : Jvm.MethodName)) ∈ gw := gw_at 437 (by decide +kernel) (by decide +kernel)
theorem wm_438 : (Jvm.Cond.selects "SheGoesOut" ({ cls := "SheGoesOut", name := "land", desc := "()I" } : Jvm.MethodName) ({ cls := "SheGoesOut", name := "land", desc := "()I" } : Jvm.MethodName)) ∈ gw := gw_at 438 (by decide +kernel) (by decide +kernel)
theorem wm_439 : (Jvm.Cond.code ({ cls := "SheGoesOut", name := "land", desc := "()I" } : Jvm.MethodName) prog_1_method_8_code (1 : Nat) (Option.some Jvm.ClassFile.FieldType.int)) ∈ gw := gw_at 439 (by decide +kernel) (by decide +kernel)
theorem cv_RL_41 : gcv RL 41 yX11_land cX11_land 1 (some .int) 0 11 := ⟨⟨wm_436, wm_437, wm_438, wm_47, wm_439⟩, ⟨by decide, by decide, by decide +kernel⟩, ⟨_, rfl, rfl⟩⟩
theorem wm_1336 : (Jvm.Cond.methodLink "SheGoesOutLaw" (45 : Nat) ({ cls := "SheGoesOutModel", name := "land", desc := "()I" } : Jvm.MethodName)) ∈ gw := gw_at 1336 (by decide +kernel) (by decide +kernel)
theorem wm_1337 : (Jvm.Cond.instanceMethod ({ cls := "SheGoesOutModel", name := "land", desc := "()I" } : Jvm.MethodName)) ∈ gw := gw_at 1337 (by decide +kernel) (by decide +kernel)
theorem wm_1338 : (Jvm.Cond.selects "SheGoesOutModel" ({ cls := "SheGoesOutModel", name := "land", desc := "()I" } : Jvm.MethodName) ({ cls := "SheGoesOutModel", name := "land", desc := "()I" } : Jvm.MethodName)) ∈ gw := gw_at 1338 (by decide +kernel) (by decide +kernel)
theorem wm_1339 : (Jvm.Cond.code ({ cls := "SheGoesOutModel", name := "land", desc := "()I" } : Jvm.MethodName) prog_14_method_19_code (3 : Nat) (Option.some Jvm.ClassFile.FieldType.int)) ∈ gw := gw_at 1339 (by decide +kernel) (by decide +kernel)
theorem cv_RL_45 : gcv RL 45 yX12_land cX12_land 3 (some .int) 0 12 := ⟨⟨wm_1336, wm_1337, wm_1338, wm_59, wm_1339⟩, ⟨by decide, by decide, by decide +kernel⟩, ⟨_, rfl, rfl⟩⟩
theorem wm_552 : (Jvm.Cond.methodLink "SheGoesOutLaw" (46 : Nat) ({ cls := "SheGoesOut", name := "rules", desc := "()I" } : Jvm.MethodName)) ∈ gw := gw_at 552 (by decide +kernel) (by decide +kernel)
theorem wm_553 : (Jvm.Cond.instanceMethod ({ cls := "SheGoesOut", name := "rules", desc := "()I" } : Jvm.MethodName)) ∈ gw := gw_at 553 (by decide +kernel) (by decide +kernel)
theorem wm_554 : (Jvm.Cond.selects "SheGoesOut" ({ cls := "SheGoesOut", name := "rules", desc := "()I" } : Jvm.MethodName) ({ cls := "SheGoesOut", name := "rules", desc := "()I" } : Jvm.MethodName)) ∈ gw := gw_at 554 (by decide +kernel) (by decide +kernel)
theorem wm_555 : (Jvm.Cond.code ({ cls := "SheGoesOut", name := "rules", desc := "()I" } : Jvm.MethodName) prog_1_method_9_code (1 : Nat) (Option.some Jvm.ClassFile.FieldType.int)) ∈ gw := gw_at 555 (by decide +kernel) (by decide +kernel)
theorem cv_RL_46 : gcv RL 46 yX11_rules cX11_rules 1 (some .int) 0 11 := ⟨⟨wm_552, wm_553, wm_554, wm_47, wm_555⟩, ⟨by decide, by decide, by decide +kernel⟩, ⟨_, rfl, rfl⟩⟩
theorem wm_1357 : (Jvm.Cond.methodLink "SheGoesOutLaw" (49 : Nat) ({ cls := "SheGoesOutModel", name := "rules", desc := "()I" } : Jvm.MethodName)) ∈ gw := gw_at 1357 (by decide +kernel) (by decide +kernel)
theorem wm_1358 : (Jvm.Cond.instanceMethod ({ cls := "SheGoesOutModel", name := "rules", desc := "()I" } : Jvm.MethodName)) ∈ gw := gw_at 1358 (by decide +kernel) (by decide +kernel)
theorem wm_1359 : (Jvm.Cond.selects "SheGoesOutModel" ({ cls := "SheGoesOutModel", name := "rules", desc := "()I" } : Jvm.MethodName) ({ cls := "SheGoesOutModel", name := "rules", desc := "()I" } : Jvm.MethodName)) ∈ gw := gw_at 1359 (by decide +kernel) (by decide +kernel)
theorem wm_1360 : (Jvm.Cond.code ({ cls := "SheGoesOutModel", name := "rules", desc := "()I" } : Jvm.MethodName) prog_14_method_21_code (4 : Nat) (Option.some Jvm.ClassFile.FieldType.int)) ∈ gw := gw_at 1360 (by decide +kernel) (by decide +kernel)
theorem cv_RL_49 : gcv RL 49 yX12_rules cX12_rules 4 (some .int) 0 12 := ⟨⟨wm_1357, wm_1358, wm_1359, wm_59, wm_1360⟩, ⟨by decide, by decide, by decide +kernel⟩, ⟨_, rfl, rfl⟩⟩
theorem wm_569 : (Jvm.Cond.methodLink "SheGoesOutLaw" (50 : Nat) ({ cls := "SheGoesOut", name := "start", desc := "(II)I" } : Jvm.MethodName)) ∈ gw := gw_at 569 (by decide +kernel) (by decide +kernel)
theorem wm_570 : (Jvm.Cond.instanceMethod ({ cls := "SheGoesOut", name := "start", desc := "(II)I" } : Jvm.MethodName)) ∈ gw := gw_at 570 (by decide +kernel) (by decide +kernel)
theorem wm_571 : (Jvm.Cond.selects "SheGoesOut" ({ cls := "SheGoesOut", name := "start", desc := "(II)I" } : Jvm.MethodName) ({ cls := "SheGoesOut", name := "start", desc := "(II)I" } : Jvm.MethodName)) ∈ gw := gw_at 571 (by decide +kernel) (by decide +kernel)
theorem wm_572 : (Jvm.Cond.code ({ cls := "SheGoesOut", name := "start", desc := "(II)I" } : Jvm.MethodName) prog_1_method_10_code (3 : Nat) (Option.some Jvm.ClassFile.FieldType.int)) ∈ gw := gw_at 572 (by decide +kernel) (by decide +kernel)
theorem cv_RL_50 : gcv RL 50 yX11_start cX11_start 3 (some .int) 2 11 := ⟨⟨wm_569, wm_570, wm_571, wm_47, wm_572⟩, ⟨by decide, by decide, by decide +kernel⟩, ⟨_, rfl, rfl⟩⟩
theorem wm_1365 : (Jvm.Cond.methodLink "SheGoesOutLaw" (53 : Nat) ({ cls := "SheGoesOutModel", name := "start", desc := "(II)I" } : Jvm.MethodName)) ∈ gw := gw_at 1365 (by decide +kernel) (by decide +kernel)
theorem wm_1366 : (Jvm.Cond.instanceMethod ({ cls := "SheGoesOutModel", name := "start", desc := "(II)I" } : Jvm.MethodName)) ∈ gw := gw_at 1366 (by decide +kernel) (by decide +kernel)
theorem wm_1367 : (Jvm.Cond.selects "SheGoesOutModel" ({ cls := "SheGoesOutModel", name := "start", desc := "(II)I" } : Jvm.MethodName) ({ cls := "SheGoesOutModel", name := "start", desc := "(II)I" } : Jvm.MethodName)) ∈ gw := gw_at 1367 (by decide +kernel) (by decide +kernel)
theorem wm_1368 : (Jvm.Cond.code ({ cls := "SheGoesOutModel", name := "start", desc := "(II)I" } : Jvm.MethodName) prog_14_method_22_code (4 : Nat) (Option.some Jvm.ClassFile.FieldType.int)) ∈ gw := gw_at 1368 (by decide +kernel) (by decide +kernel)
theorem cv_RL_53 : gcv RL 53 yX12_start cX12_start 4 (some .int) 2 12 := ⟨⟨wm_1365, wm_1366, wm_1367, wm_59, wm_1368⟩, ⟨by decide, by decide, by decide +kernel⟩, ⟨_, rfl, rfl⟩⟩
theorem wm_592 : (Jvm.Cond.methodLink "SheGoesOutLaw" (54 : Nat) ({ cls := "SheGoesOut", name := "night", desc := "(I)I" } : Jvm.MethodName)) ∈ gw := gw_at 592 (by decide +kernel) (by decide +kernel)
theorem wm_593 : (Jvm.Cond.instanceMethod ({ cls := "SheGoesOut", name := "night", desc := "(I)I" } : Jvm.MethodName)) ∈ gw := gw_at 593 (by decide +kernel) (by decide +kernel)
theorem wm_594 : (Jvm.Cond.selects "SheGoesOut" ({ cls := "SheGoesOut", name := "night", desc := "(I)I" } : Jvm.MethodName) ({ cls := "SheGoesOut", name := "night", desc := "(I)I" } : Jvm.MethodName)) ∈ gw := gw_at 594 (by decide +kernel) (by decide +kernel)
theorem wm_595 : (Jvm.Cond.code ({ cls := "SheGoesOut", name := "night", desc := "(I)I" } : Jvm.MethodName) prog_1_method_11_code (3 : Nat) (Option.some Jvm.ClassFile.FieldType.int)) ∈ gw := gw_at 595 (by decide +kernel) (by decide +kernel)
theorem cv_RL_54 : gcv RL 54 yX11_night cX11_night 3 (some .int) 1 11 := ⟨⟨wm_592, wm_593, wm_594, wm_47, wm_595⟩, ⟨by decide, by decide, by decide +kernel⟩, ⟨_, rfl, rfl⟩⟩
theorem wm_1370 : (Jvm.Cond.methodLink "SheGoesOutLaw" (58 : Nat) ({ cls := "SheGoesOutModel", name := "night", desc := "(I)I" } : Jvm.MethodName)) ∈ gw := gw_at 1370 (by decide +kernel) (by decide +kernel)
theorem wm_1371 : (Jvm.Cond.instanceMethod ({ cls := "SheGoesOutModel", name := "night", desc := "(I)I" } : Jvm.MethodName)) ∈ gw := gw_at 1371 (by decide +kernel) (by decide +kernel)
theorem wm_1372 : (Jvm.Cond.selects "SheGoesOutModel" ({ cls := "SheGoesOutModel", name := "night", desc := "(I)I" } : Jvm.MethodName) ({ cls := "SheGoesOutModel", name := "night", desc := "(I)I" } : Jvm.MethodName)) ∈ gw := gw_at 1372 (by decide +kernel) (by decide +kernel)
theorem wm_1373 : (Jvm.Cond.code ({ cls := "SheGoesOutModel", name := "night", desc := "(I)I" } : Jvm.MethodName) prog_14_method_27_code (4 : Nat) (Option.some Jvm.ClassFile.FieldType.int)) ∈ gw := gw_at 1373 (by decide +kernel) (by decide +kernel)
theorem cv_RL_58 : gcv RL 58 yX12_night cX12_night 4 (some .int) 1 12 := ⟨⟨wm_1370, wm_1371, wm_1372, wm_59, wm_1373⟩, ⟨by decide, by decide, by decide +kernel⟩, ⟨_, rfl, rfl⟩⟩
theorem wm_653 : (Jvm.Cond.methodLink "SheGoesOutLaw" (59 : Nat) ({ cls := "SheGoesOut", name := "parts", desc := "(II)J" } : Jvm.MethodName)) ∈ gw := gw_at 653 (by decide +kernel) (by decide +kernel)
theorem wm_654 : (Jvm.Cond.instanceMethod ({ cls := "SheGoesOut", name := "parts", desc := "(II)J" } : Jvm.MethodName)) ∈ gw := gw_at 654 (by decide +kernel) (by decide +kernel)
theorem wm_655 : (Jvm.Cond.selects "SheGoesOut" ({ cls := "SheGoesOut", name := "parts", desc := "(II)J" } : Jvm.MethodName) ({ cls := "SheGoesOut", name := "parts", desc := "(II)J" } : Jvm.MethodName)) ∈ gw := gw_at 655 (by decide +kernel) (by decide +kernel)
theorem wm_656 : (Jvm.Cond.code ({ cls := "SheGoesOut", name := "parts", desc := "(II)J" } : Jvm.MethodName) prog_1_method_12_code (3 : Nat) (Option.some Jvm.ClassFile.FieldType.long)) ∈ gw := gw_at 656 (by decide +kernel) (by decide +kernel)
theorem cv_RL_59 : gcv RL 59 yX11_parts cX11_parts 3 (some .long) 2 11 := ⟨⟨wm_653, wm_654, wm_655, wm_47, wm_656⟩, ⟨by decide, by decide, by decide +kernel⟩, ⟨_, rfl, rfl⟩⟩
theorem wm_1391 : (Jvm.Cond.methodLink "SheGoesOutLaw" (63 : Nat) ({ cls := "SheGoesOutModel", name := "parts", desc := "(II)J" } : Jvm.MethodName)) ∈ gw := gw_at 1391 (by decide +kernel) (by decide +kernel)
theorem wm_1392 : (Jvm.Cond.instanceMethod ({ cls := "SheGoesOutModel", name := "parts", desc := "(II)J" } : Jvm.MethodName)) ∈ gw := gw_at 1392 (by decide +kernel) (by decide +kernel)
theorem wm_1393 : (Jvm.Cond.selects "SheGoesOutModel" ({ cls := "SheGoesOutModel", name := "parts", desc := "(II)J" } : Jvm.MethodName) ({ cls := "SheGoesOutModel", name := "parts", desc := "(II)J" } : Jvm.MethodName)) ∈ gw := gw_at 1393 (by decide +kernel) (by decide +kernel)
theorem wm_1394 : (Jvm.Cond.code ({ cls := "SheGoesOutModel", name := "parts", desc := "(II)J" } : Jvm.MethodName) prog_14_method_30_code (3 : Nat) (Option.some Jvm.ClassFile.FieldType.long)) ∈ gw := gw_at 1394 (by decide +kernel) (by decide +kernel)
theorem cv_RL_63 : gcv RL 63 yX12_parts cX12_parts 3 (some .long) 2 12 := ⟨⟨wm_1391, wm_1392, wm_1393, wm_59, wm_1394⟩, ⟨by decide, by decide, by decide +kernel⟩, ⟨_, rfl, rfl⟩⟩
theorem wm_658 : (Jvm.Cond.methodLink "SheGoesOutLaw" (64 : Nat) ({ cls := "SheGoesOut", name := "odds", desc := "(II)J" } : Jvm.MethodName)) ∈ gw := gw_at 658 (by decide +kernel) (by decide +kernel)
theorem wm_659 : (Jvm.Cond.instanceMethod ({ cls := "SheGoesOut", name := "odds", desc := "(II)J" } : Jvm.MethodName)) ∈ gw := gw_at 659 (by decide +kernel) (by decide +kernel)
theorem wm_660 : (Jvm.Cond.selects "SheGoesOut" ({ cls := "SheGoesOut", name := "odds", desc := "(II)J" } : Jvm.MethodName) ({ cls := "SheGoesOut", name := "odds", desc := "(II)J" } : Jvm.MethodName)) ∈ gw := gw_at 660 (by decide +kernel) (by decide +kernel)
theorem wm_661 : (Jvm.Cond.code ({ cls := "SheGoesOut", name := "odds", desc := "(II)J" } : Jvm.MethodName) prog_1_method_13_code (5 : Nat) (Option.some Jvm.ClassFile.FieldType.long)) ∈ gw := gw_at 661 (by decide +kernel) (by decide +kernel)
theorem cv_RL_64 : gcv RL 64 yX11_odds cX11_odds 5 (some .long) 2 11 := ⟨⟨wm_658, wm_659, wm_660, wm_47, wm_661⟩, ⟨by decide, by decide, by decide +kernel⟩, ⟨_, rfl, rfl⟩⟩
theorem wm_1400 : (Jvm.Cond.methodLink "SheGoesOutLaw" (67 : Nat) ({ cls := "SheGoesOutModel", name := "odds", desc := "(II)J" } : Jvm.MethodName)) ∈ gw := gw_at 1400 (by decide +kernel) (by decide +kernel)
theorem wm_1401 : (Jvm.Cond.instanceMethod ({ cls := "SheGoesOutModel", name := "odds", desc := "(II)J" } : Jvm.MethodName)) ∈ gw := gw_at 1401 (by decide +kernel) (by decide +kernel)
theorem wm_1402 : (Jvm.Cond.selects "SheGoesOutModel" ({ cls := "SheGoesOutModel", name := "odds", desc := "(II)J" } : Jvm.MethodName) ({ cls := "SheGoesOutModel", name := "odds", desc := "(II)J" } : Jvm.MethodName)) ∈ gw := gw_at 1402 (by decide +kernel) (by decide +kernel)
theorem wm_1403 : (Jvm.Cond.code ({ cls := "SheGoesOutModel", name := "odds", desc := "(II)J" } : Jvm.MethodName) prog_14_method_32_code (3 : Nat) (Option.some Jvm.ClassFile.FieldType.long)) ∈ gw := gw_at 1403 (by decide +kernel) (by decide +kernel)
theorem cv_RL_67 : gcv RL 67 yX12_odds cX12_odds 3 (some .long) 2 12 := ⟨⟨wm_1400, wm_1401, wm_1402, wm_59, wm_1403⟩, ⟨by decide, by decide, by decide +kernel⟩, ⟨_, rfl, rfl⟩⟩
theorem wm_675 : (Jvm.Cond.methodLink "SheGoesOutLaw" (68 : Nat) ({ cls := "SheGoesOut", name := "where", desc := "(I)I" } : Jvm.MethodName)) ∈ gw := gw_at 675 (by decide +kernel) (by decide +kernel)
theorem wm_676 : (Jvm.Cond.instanceMethod ({ cls := "SheGoesOut", name := "where", desc := "(I)I" } : Jvm.MethodName)) ∈ gw := gw_at 676 (by decide +kernel) (by decide +kernel)
theorem wm_677 : (Jvm.Cond.selects "SheGoesOut" ({ cls := "SheGoesOut", name := "where", desc := "(I)I" } : Jvm.MethodName) ({ cls := "SheGoesOut", name := "where", desc := "(I)I" } : Jvm.MethodName)) ∈ gw := gw_at 677 (by decide +kernel) (by decide +kernel)
theorem wm_678 : (Jvm.Cond.code ({ cls := "SheGoesOut", name := "where", desc := "(I)I" } : Jvm.MethodName) prog_1_method_14_code (3 : Nat) (Option.some Jvm.ClassFile.FieldType.int)) ∈ gw := gw_at 678 (by decide +kernel) (by decide +kernel)
theorem cv_RL_68 : gcv RL 68 yX11_where cX11_where 3 (some .int) 1 11 := ⟨⟨wm_675, wm_676, wm_677, wm_47, wm_678⟩, ⟨by decide, by decide, by decide +kernel⟩, ⟨_, rfl, rfl⟩⟩
theorem wm_1412 : (Jvm.Cond.methodLink "SheGoesOutLaw" (71 : Nat) ({ cls := "SheGoesOutModel", name := "where", desc := "(I)I" } : Jvm.MethodName)) ∈ gw := gw_at 1412 (by decide +kernel) (by decide +kernel)
theorem wm_1413 : (Jvm.Cond.instanceMethod ({ cls := "SheGoesOutModel", name := "where", desc := "(I)I" } : Jvm.MethodName)) ∈ gw := gw_at 1413 (by decide +kernel) (by decide +kernel)
theorem wm_1414 : (Jvm.Cond.selects "SheGoesOutModel" ({ cls := "SheGoesOutModel", name := "where", desc := "(I)I" } : Jvm.MethodName) ({ cls := "SheGoesOutModel", name := "where", desc := "(I)I" } : Jvm.MethodName)) ∈ gw := gw_at 1414 (by decide +kernel) (by decide +kernel)
theorem wm_1415 : (Jvm.Cond.code ({ cls := "SheGoesOutModel", name := "where", desc := "(I)I" } : Jvm.MethodName) prog_14_method_33_code (8 : Nat) (Option.some Jvm.ClassFile.FieldType.int)) ∈ gw := gw_at 1415 (by decide +kernel) (by decide +kernel)
theorem cv_RL_71 : gcv RL 71 yX12_where cX12_where 8 (some .int) 1 12 := ⟨⟨wm_1412, wm_1413, wm_1414, wm_59, wm_1415⟩, ⟨by decide, by decide, by decide +kernel⟩, ⟨_, rfl, rfl⟩⟩
theorem wm_683 : (Jvm.Cond.methodLink "SheGoesOutLaw" (72 : Nat) ({ cls := "SheGoesOut", name := "count", desc := "(I)I" } : Jvm.MethodName)) ∈ gw := gw_at 683 (by decide +kernel) (by decide +kernel)
theorem wm_684 : (Jvm.Cond.instanceMethod ({ cls := "SheGoesOut", name := "count", desc := "(I)I" } : Jvm.MethodName)) ∈ gw := gw_at 684 (by decide +kernel) (by decide +kernel)
theorem wm_685 : (Jvm.Cond.selects "SheGoesOut" ({ cls := "SheGoesOut", name := "count", desc := "(I)I" } : Jvm.MethodName) ({ cls := "SheGoesOut", name := "count", desc := "(I)I" } : Jvm.MethodName)) ∈ gw := gw_at 685 (by decide +kernel) (by decide +kernel)
theorem wm_686 : (Jvm.Cond.code ({ cls := "SheGoesOut", name := "count", desc := "(I)I" } : Jvm.MethodName) prog_1_method_15_code (2 : Nat) (Option.some Jvm.ClassFile.FieldType.int)) ∈ gw := gw_at 686 (by decide +kernel) (by decide +kernel)
theorem cv_RL_72 : gcv RL 72 yX11_count cX11_count 2 (some .int) 1 11 := ⟨⟨wm_683, wm_684, wm_685, wm_47, wm_686⟩, ⟨by decide, by decide, by decide +kernel⟩, ⟨_, rfl, rfl⟩⟩
theorem wm_1416 : (Jvm.Cond.methodLink "SheGoesOutLaw" (75 : Nat) ({ cls := "SheGoesOutModel", name := "count", desc := "(I)I" } : Jvm.MethodName)) ∈ gw := gw_at 1416 (by decide +kernel) (by decide +kernel)
theorem wm_1417 : (Jvm.Cond.instanceMethod ({ cls := "SheGoesOutModel", name := "count", desc := "(I)I" } : Jvm.MethodName)) ∈ gw := gw_at 1417 (by decide +kernel) (by decide +kernel)
theorem wm_1418 : (Jvm.Cond.selects "SheGoesOutModel" ({ cls := "SheGoesOutModel", name := "count", desc := "(I)I" } : Jvm.MethodName) ({ cls := "SheGoesOutModel", name := "count", desc := "(I)I" } : Jvm.MethodName)) ∈ gw := gw_at 1418 (by decide +kernel) (by decide +kernel)
theorem wm_1419 : (Jvm.Cond.code ({ cls := "SheGoesOutModel", name := "count", desc := "(I)I" } : Jvm.MethodName) prog_14_method_35_code (4 : Nat) (Option.some Jvm.ClassFile.FieldType.int)) ∈ gw := gw_at 1419 (by decide +kernel) (by decide +kernel)
theorem cv_RL_75 : gcv RL 75 yX12_count cX12_count 4 (some .int) 1 12 := ⟨⟨wm_1416, wm_1417, wm_1418, wm_59, wm_1419⟩, ⟨by decide, by decide, by decide +kernel⟩, ⟨_, rfl, rfl⟩⟩
theorem wm_695 : (Jvm.Cond.methodLink "SheGoesOutLaw" (76 : Nat) ({ cls := "SheGoesOut", name := "sees", desc := "(III)I" } : Jvm.MethodName)) ∈ gw := gw_at 695 (by decide +kernel) (by decide +kernel)
theorem wm_696 : (Jvm.Cond.instanceMethod ({ cls := "SheGoesOut", name := "sees", desc := "(III)I" } : Jvm.MethodName)) ∈ gw := gw_at 696 (by decide +kernel) (by decide +kernel)
theorem wm_697 : (Jvm.Cond.selects "SheGoesOut" ({ cls := "SheGoesOut", name := "sees", desc := "(III)I" } : Jvm.MethodName) ({ cls := "SheGoesOut", name := "sees", desc := "(III)I" } : Jvm.MethodName)) ∈ gw := gw_at 697 (by decide +kernel) (by decide +kernel)
theorem wm_698 : (Jvm.Cond.code ({ cls := "SheGoesOut", name := "sees", desc := "(III)I" } : Jvm.MethodName) prog_1_method_16_code (4 : Nat) (Option.some Jvm.ClassFile.FieldType.int)) ∈ gw := gw_at 698 (by decide +kernel) (by decide +kernel)
theorem cv_RL_76 : gcv RL 76 yX11_sees cX11_sees 4 (some .int) 3 11 := ⟨⟨wm_695, wm_696, wm_697, wm_47, wm_698⟩, ⟨by decide, by decide, by decide +kernel⟩, ⟨_, rfl, rfl⟩⟩
theorem wm_1424 : (Jvm.Cond.methodLink "SheGoesOutLaw" (80 : Nat) ({ cls := "SheGoesOutModel", name := "sees", desc := "(III)I" } : Jvm.MethodName)) ∈ gw := gw_at 1424 (by decide +kernel) (by decide +kernel)
theorem wm_1425 : (Jvm.Cond.instanceMethod ({ cls := "SheGoesOutModel", name := "sees", desc := "(III)I" } : Jvm.MethodName)) ∈ gw := gw_at 1425 (by decide +kernel) (by decide +kernel)
theorem wm_1426 : (Jvm.Cond.selects "SheGoesOutModel" ({ cls := "SheGoesOutModel", name := "sees", desc := "(III)I" } : Jvm.MethodName) ({ cls := "SheGoesOutModel", name := "sees", desc := "(III)I" } : Jvm.MethodName)) ∈ gw := gw_at 1426 (by decide +kernel) (by decide +kernel)
theorem wm_1427 : (Jvm.Cond.code ({ cls := "SheGoesOutModel", name := "sees", desc := "(III)I" } : Jvm.MethodName) prog_14_method_40_code (4 : Nat) (Option.some Jvm.ClassFile.FieldType.int)) ∈ gw := gw_at 1427 (by decide +kernel) (by decide +kernel)
theorem cv_RL_80 : gcv RL 80 yX12_sees cX12_sees 4 (some .int) 3 12 := ⟨⟨wm_1424, wm_1425, wm_1426, wm_59, wm_1427⟩, ⟨by decide, by decide, by decide +kernel⟩, ⟨_, rfl, rfl⟩⟩
theorem wm_708 : (Jvm.Cond.methodLink "SheGoesOutLaw" (81 : Nat) ({ cls := "SheGoesOut", name := "search", desc := "(II)I" } : Jvm.MethodName)) ∈ gw := gw_at 708 (by decide +kernel) (by decide +kernel)
theorem wm_709 : (Jvm.Cond.instanceMethod ({ cls := "SheGoesOut", name := "search", desc := "(II)I" } : Jvm.MethodName)) ∈ gw := gw_at 709 (by decide +kernel) (by decide +kernel)
theorem wm_710 : (Jvm.Cond.selects "SheGoesOut" ({ cls := "SheGoesOut", name := "search", desc := "(II)I" } : Jvm.MethodName) ({ cls := "SheGoesOut", name := "search", desc := "(II)I" } : Jvm.MethodName)) ∈ gw := gw_at 710 (by decide +kernel) (by decide +kernel)
theorem wm_711 : (Jvm.Cond.code ({ cls := "SheGoesOut", name := "search", desc := "(II)I" } : Jvm.MethodName) prog_1_method_17_code (5 : Nat) (Option.some Jvm.ClassFile.FieldType.int)) ∈ gw := gw_at 711 (by decide +kernel) (by decide +kernel)
theorem cv_RL_81 : gcv RL 81 yX11_search cX11_search 5 (some .int) 2 11 := ⟨⟨wm_708, wm_709, wm_710, wm_47, wm_711⟩, ⟨by decide, by decide, by decide +kernel⟩, ⟨_, rfl, rfl⟩⟩
theorem wm_1438 : (Jvm.Cond.methodLink "SheGoesOutLaw" (84 : Nat) ({ cls := "SheGoesOutModel", name := "search", desc := "(II)I" } : Jvm.MethodName)) ∈ gw := gw_at 1438 (by decide +kernel) (by decide +kernel)
theorem wm_1439 : (Jvm.Cond.instanceMethod ({ cls := "SheGoesOutModel", name := "search", desc := "(II)I" } : Jvm.MethodName)) ∈ gw := gw_at 1439 (by decide +kernel) (by decide +kernel)
theorem wm_1440 : (Jvm.Cond.selects "SheGoesOutModel" ({ cls := "SheGoesOutModel", name := "search", desc := "(II)I" } : Jvm.MethodName) ({ cls := "SheGoesOutModel", name := "search", desc := "(II)I" } : Jvm.MethodName)) ∈ gw := gw_at 1440 (by decide +kernel) (by decide +kernel)
theorem wm_1441 : (Jvm.Cond.code ({ cls := "SheGoesOutModel", name := "search", desc := "(II)I" } : Jvm.MethodName) prog_14_method_41_code (6 : Nat) (Option.some Jvm.ClassFile.FieldType.int)) ∈ gw := gw_at 1441 (by decide +kernel) (by decide +kernel)
theorem cv_RL_84 : gcv RL 84 yX12_search cX12_search 6 (some .int) 2 12 := ⟨⟨wm_1438, wm_1439, wm_1440, wm_59, wm_1441⟩, ⟨by decide, by decide, by decide +kernel⟩, ⟨_, rfl, rfl⟩⟩
theorem wm_734 : (Jvm.Cond.methodLink "SheGoesOutLaw" (85 : Nat) ({ cls := "SheGoesOut", name := "alive", desc := "(I)I" } : Jvm.MethodName)) ∈ gw := gw_at 734 (by decide +kernel) (by decide +kernel)
theorem wm_735 : (Jvm.Cond.instanceMethod ({ cls := "SheGoesOut", name := "alive", desc := "(I)I" } : Jvm.MethodName)) ∈ gw := gw_at 735 (by decide +kernel) (by decide +kernel)
theorem wm_736 : (Jvm.Cond.selects "SheGoesOut" ({ cls := "SheGoesOut", name := "alive", desc := "(I)I" } : Jvm.MethodName) ({ cls := "SheGoesOut", name := "alive", desc := "(I)I" } : Jvm.MethodName)) ∈ gw := gw_at 736 (by decide +kernel) (by decide +kernel)
theorem wm_737 : (Jvm.Cond.code ({ cls := "SheGoesOut", name := "alive", desc := "(I)I" } : Jvm.MethodName) prog_1_method_18_code (2 : Nat) (Option.some Jvm.ClassFile.FieldType.int)) ∈ gw := gw_at 737 (by decide +kernel) (by decide +kernel)
theorem cv_RL_85 : gcv RL 85 yX11_alive cX11_alive 2 (some .int) 1 11 := ⟨⟨wm_734, wm_735, wm_736, wm_47, wm_737⟩, ⟨by decide, by decide, by decide +kernel⟩, ⟨_, rfl, rfl⟩⟩
theorem wm_1444 : (Jvm.Cond.methodLink "SheGoesOutLaw" (88 : Nat) ({ cls := "SheGoesOutModel", name := "alive", desc := "(I)I" } : Jvm.MethodName)) ∈ gw := gw_at 1444 (by decide +kernel) (by decide +kernel)
theorem wm_1445 : (Jvm.Cond.instanceMethod ({ cls := "SheGoesOutModel", name := "alive", desc := "(I)I" } : Jvm.MethodName)) ∈ gw := gw_at 1445 (by decide +kernel) (by decide +kernel)
theorem wm_1446 : (Jvm.Cond.selects "SheGoesOutModel" ({ cls := "SheGoesOutModel", name := "alive", desc := "(I)I" } : Jvm.MethodName) ({ cls := "SheGoesOutModel", name := "alive", desc := "(I)I" } : Jvm.MethodName)) ∈ gw := gw_at 1446 (by decide +kernel) (by decide +kernel)
theorem wm_1447 : (Jvm.Cond.code ({ cls := "SheGoesOutModel", name := "alive", desc := "(I)I" } : Jvm.MethodName) prog_14_method_43_code (2 : Nat) (Option.some Jvm.ClassFile.FieldType.int)) ∈ gw := gw_at 1447 (by decide +kernel) (by decide +kernel)
theorem cv_RL_88 : gcv RL 88 yX12_alive cX12_alive 2 (some .int) 1 12 := ⟨⟨wm_1444, wm_1445, wm_1446, wm_59, wm_1447⟩, ⟨by decide, by decide, by decide +kernel⟩, ⟨_, rfl, rfl⟩⟩
theorem wm_743 : (Jvm.Cond.methodLink "SheGoesOutLaw" (89 : Nat) ({ cls := "SheGoesOut", name := "team", desc := "(III)I" } : Jvm.MethodName)) ∈ gw := gw_at 743 (by decide +kernel) (by decide +kernel)
theorem wm_744 : (Jvm.Cond.instanceMethod ({ cls := "SheGoesOut", name := "team", desc := "(III)I" } : Jvm.MethodName)) ∈ gw := gw_at 744 (by decide +kernel) (by decide +kernel)
theorem wm_745 : (Jvm.Cond.selects "SheGoesOut" ({ cls := "SheGoesOut", name := "team", desc := "(III)I" } : Jvm.MethodName) ({ cls := "SheGoesOut", name := "team", desc := "(III)I" } : Jvm.MethodName)) ∈ gw := gw_at 745 (by decide +kernel) (by decide +kernel)
theorem wm_746 : (Jvm.Cond.code ({ cls := "SheGoesOut", name := "team", desc := "(III)I" } : Jvm.MethodName) prog_1_method_19_code (4 : Nat) (Option.some Jvm.ClassFile.FieldType.int)) ∈ gw := gw_at 746 (by decide +kernel) (by decide +kernel)
theorem cv_RL_89 : gcv RL 89 yX11_team cX11_team 4 (some .int) 3 11 := ⟨⟨wm_743, wm_744, wm_745, wm_47, wm_746⟩, ⟨by decide, by decide, by decide +kernel⟩, ⟨_, rfl, rfl⟩⟩
theorem wm_1452 : (Jvm.Cond.methodLink "SheGoesOutLaw" (92 : Nat) ({ cls := "SheGoesOutModel", name := "team", desc := "(III)I" } : Jvm.MethodName)) ∈ gw := gw_at 1452 (by decide +kernel) (by decide +kernel)
theorem wm_1453 : (Jvm.Cond.instanceMethod ({ cls := "SheGoesOutModel", name := "team", desc := "(III)I" } : Jvm.MethodName)) ∈ gw := gw_at 1453 (by decide +kernel) (by decide +kernel)
theorem wm_1454 : (Jvm.Cond.selects "SheGoesOutModel" ({ cls := "SheGoesOutModel", name := "team", desc := "(III)I" } : Jvm.MethodName) ({ cls := "SheGoesOutModel", name := "team", desc := "(III)I" } : Jvm.MethodName)) ∈ gw := gw_at 1454 (by decide +kernel) (by decide +kernel)
theorem wm_1455 : (Jvm.Cond.code ({ cls := "SheGoesOutModel", name := "team", desc := "(III)I" } : Jvm.MethodName) prog_14_method_44_code (4 : Nat) (Option.some Jvm.ClassFile.FieldType.int)) ∈ gw := gw_at 1455 (by decide +kernel) (by decide +kernel)
theorem cv_RL_92 : gcv RL 92 yX12_team cX12_team 4 (some .int) 3 12 := ⟨⟨wm_1452, wm_1453, wm_1454, wm_59, wm_1455⟩, ⟨by decide, by decide, by decide +kernel⟩, ⟨_, rfl, rfl⟩⟩
theorem wm_751 : (Jvm.Cond.methodLink "SheGoesOutLaw" (93 : Nat) ({ cls := "SheGoesOut", name := "place", desc := "(I)I" } : Jvm.MethodName)) ∈ gw := gw_at 751 (by decide +kernel) (by decide +kernel)
theorem wm_752 : (Jvm.Cond.instanceMethod ({ cls := "SheGoesOut", name := "place", desc := "(I)I" } : Jvm.MethodName)) ∈ gw := gw_at 752 (by decide +kernel) (by decide +kernel)
theorem wm_753 : (Jvm.Cond.selects "SheGoesOut" ({ cls := "SheGoesOut", name := "place", desc := "(I)I" } : Jvm.MethodName) ({ cls := "SheGoesOut", name := "place", desc := "(I)I" } : Jvm.MethodName)) ∈ gw := gw_at 753 (by decide +kernel) (by decide +kernel)
theorem wm_754 : (Jvm.Cond.code ({ cls := "SheGoesOut", name := "place", desc := "(I)I" } : Jvm.MethodName) prog_1_method_20_code (2 : Nat) (Option.some Jvm.ClassFile.FieldType.int)) ∈ gw := gw_at 754 (by decide +kernel) (by decide +kernel)
theorem cv_RL_93 : gcv RL 93 yX11_place cX11_place 2 (some .int) 1 11 := ⟨⟨wm_751, wm_752, wm_753, wm_47, wm_754⟩, ⟨by decide, by decide, by decide +kernel⟩, ⟨_, rfl, rfl⟩⟩
theorem wm_1456 : (Jvm.Cond.methodLink "SheGoesOutLaw" (96 : Nat) ({ cls := "SheGoesOutModel", name := "place", desc := "(I)I" } : Jvm.MethodName)) ∈ gw := gw_at 1456 (by decide +kernel) (by decide +kernel)
theorem wm_1457 : (Jvm.Cond.instanceMethod ({ cls := "SheGoesOutModel", name := "place", desc := "(I)I" } : Jvm.MethodName)) ∈ gw := gw_at 1457 (by decide +kernel) (by decide +kernel)
theorem wm_1458 : (Jvm.Cond.selects "SheGoesOutModel" ({ cls := "SheGoesOutModel", name := "place", desc := "(I)I" } : Jvm.MethodName) ({ cls := "SheGoesOutModel", name := "place", desc := "(I)I" } : Jvm.MethodName)) ∈ gw := gw_at 1458 (by decide +kernel) (by decide +kernel)
theorem wm_1459 : (Jvm.Cond.code ({ cls := "SheGoesOutModel", name := "place", desc := "(I)I" } : Jvm.MethodName) prog_14_method_45_code (4 : Nat) (Option.some Jvm.ClassFile.FieldType.int)) ∈ gw := gw_at 1459 (by decide +kernel) (by decide +kernel)
theorem cv_RL_96 : gcv RL 96 yX12_place cX12_place 4 (some .int) 1 12 := ⟨⟨wm_1456, wm_1457, wm_1458, wm_59, wm_1459⟩, ⟨by decide, by decide, by decide +kernel⟩, ⟨_, rfl, rfl⟩⟩
theorem wm_763 : (Jvm.Cond.methodLink "SheGoesOutLaw" (97 : Nat) ({ cls := "SheGoesOut", name := "whom", desc := "(I)J" } : Jvm.MethodName)) ∈ gw := gw_at 763 (by decide +kernel) (by decide +kernel)
theorem wm_764 : (Jvm.Cond.instanceMethod ({ cls := "SheGoesOut", name := "whom", desc := "(I)J" } : Jvm.MethodName)) ∈ gw := gw_at 764 (by decide +kernel) (by decide +kernel)
theorem wm_765 : (Jvm.Cond.selects "SheGoesOut" ({ cls := "SheGoesOut", name := "whom", desc := "(I)J" } : Jvm.MethodName) ({ cls := "SheGoesOut", name := "whom", desc := "(I)J" } : Jvm.MethodName)) ∈ gw := gw_at 765 (by decide +kernel) (by decide +kernel)
theorem wm_766 : (Jvm.Cond.code ({ cls := "SheGoesOut", name := "whom", desc := "(I)J" } : Jvm.MethodName) prog_1_method_21_code (2 : Nat) (Option.some Jvm.ClassFile.FieldType.long)) ∈ gw := gw_at 766 (by decide +kernel) (by decide +kernel)
theorem cv_RL_97 : gcv RL 97 yX11_whom cX11_whom 2 (some .long) 1 11 := ⟨⟨wm_763, wm_764, wm_765, wm_47, wm_766⟩, ⟨by decide, by decide, by decide +kernel⟩, ⟨_, rfl, rfl⟩⟩
theorem wm_1460 : (Jvm.Cond.methodLink "SheGoesOutLaw" (101 : Nat) ({ cls := "SheGoesOutModel", name := "whom", desc := "(I)J" } : Jvm.MethodName)) ∈ gw := gw_at 1460 (by decide +kernel) (by decide +kernel)
theorem wm_1461 : (Jvm.Cond.instanceMethod ({ cls := "SheGoesOutModel", name := "whom", desc := "(I)J" } : Jvm.MethodName)) ∈ gw := gw_at 1461 (by decide +kernel) (by decide +kernel)
theorem wm_1462 : (Jvm.Cond.selects "SheGoesOutModel" ({ cls := "SheGoesOutModel", name := "whom", desc := "(I)J" } : Jvm.MethodName) ({ cls := "SheGoesOutModel", name := "whom", desc := "(I)J" } : Jvm.MethodName)) ∈ gw := gw_at 1462 (by decide +kernel) (by decide +kernel)
theorem wm_1463 : (Jvm.Cond.code ({ cls := "SheGoesOutModel", name := "whom", desc := "(I)J" } : Jvm.MethodName) prog_14_method_49_code (14 : Nat) (Option.some Jvm.ClassFile.FieldType.long)) ∈ gw := gw_at 1463 (by decide +kernel) (by decide +kernel)
theorem cv_RL_101 : gcv RL 101 yX12_whom cX12_whom 14 (some .long) 1 12 := ⟨⟨wm_1460, wm_1461, wm_1462, wm_59, wm_1463⟩, ⟨by decide, by decide, by decide +kernel⟩, ⟨_, rfl, rfl⟩⟩
theorem wm_795 : (Jvm.Cond.methodLink "SheGoesOutLaw" (102 : Nat) ({ cls := "SheGoesOut", name := "bound", desc := "()J" } : Jvm.MethodName)) ∈ gw := gw_at 795 (by decide +kernel) (by decide +kernel)
theorem wm_796 : (Jvm.Cond.instanceMethod ({ cls := "SheGoesOut", name := "bound", desc := "()J" } : Jvm.MethodName)) ∈ gw := gw_at 796 (by decide +kernel) (by decide +kernel)
theorem wm_797 : (Jvm.Cond.selects "SheGoesOut" ({ cls := "SheGoesOut", name := "bound", desc := "()J" } : Jvm.MethodName) ({ cls := "SheGoesOut", name := "bound", desc := "()J" } : Jvm.MethodName)) ∈ gw := gw_at 797 (by decide +kernel) (by decide +kernel)
theorem wm_798 : (Jvm.Cond.code ({ cls := "SheGoesOut", name := "bound", desc := "()J" } : Jvm.MethodName) prog_1_method_22_code (1 : Nat) (Option.some Jvm.ClassFile.FieldType.long)) ∈ gw := gw_at 798 (by decide +kernel) (by decide +kernel)
theorem cv_RL_102 : gcv RL 102 yX11_bound cX11_bound 1 (some .long) 0 11 := ⟨⟨wm_795, wm_796, wm_797, wm_47, wm_798⟩, ⟨by decide, by decide, by decide +kernel⟩, ⟨_, rfl, rfl⟩⟩
theorem wm_1480 : (Jvm.Cond.methodLink "SheGoesOutLaw" (106 : Nat) ({ cls := "SheGoesOutModel", name := "bound", desc := "()J" } : Jvm.MethodName)) ∈ gw := gw_at 1480 (by decide +kernel) (by decide +kernel)
theorem wm_1481 : (Jvm.Cond.instanceMethod ({ cls := "SheGoesOutModel", name := "bound", desc := "()J" } : Jvm.MethodName)) ∈ gw := gw_at 1481 (by decide +kernel) (by decide +kernel)
theorem wm_1482 : (Jvm.Cond.selects "SheGoesOutModel" ({ cls := "SheGoesOutModel", name := "bound", desc := "()J" } : Jvm.MethodName) ({ cls := "SheGoesOutModel", name := "bound", desc := "()J" } : Jvm.MethodName)) ∈ gw := gw_at 1482 (by decide +kernel) (by decide +kernel)
theorem wm_1483 : (Jvm.Cond.code ({ cls := "SheGoesOutModel", name := "bound", desc := "()J" } : Jvm.MethodName) prog_14_method_50_code (7 : Nat) (Option.some Jvm.ClassFile.FieldType.long)) ∈ gw := gw_at 1483 (by decide +kernel) (by decide +kernel)
theorem cv_RL_106 : gcv RL 106 yX12_bound cX12_bound 7 (some .long) 0 12 := ⟨⟨wm_1480, wm_1481, wm_1482, wm_59, wm_1483⟩, ⟨by decide, by decide, by decide +kernel⟩, ⟨_, rfl, rfl⟩⟩
theorem wm_806 : (Jvm.Cond.methodLink "SheGoesOutLaw" (107 : Nat) ({ cls := "SheGoesOut", name := "again", desc := "(II)I" } : Jvm.MethodName)) ∈ gw := gw_at 806 (by decide +kernel) (by decide +kernel)
theorem wm_807 : (Jvm.Cond.instanceMethod ({ cls := "SheGoesOut", name := "again", desc := "(II)I" } : Jvm.MethodName)) ∈ gw := gw_at 807 (by decide +kernel) (by decide +kernel)
theorem wm_808 : (Jvm.Cond.selects "SheGoesOut" ({ cls := "SheGoesOut", name := "again", desc := "(II)I" } : Jvm.MethodName) ({ cls := "SheGoesOut", name := "again", desc := "(II)I" } : Jvm.MethodName)) ∈ gw := gw_at 808 (by decide +kernel) (by decide +kernel)
theorem wm_809 : (Jvm.Cond.code ({ cls := "SheGoesOut", name := "again", desc := "(II)I" } : Jvm.MethodName) prog_1_method_23_code (4 : Nat) (Option.some Jvm.ClassFile.FieldType.int)) ∈ gw := gw_at 809 (by decide +kernel) (by decide +kernel)
theorem cv_RL_107 : gcv RL 107 yX11_again cX11_again 4 (some .int) 2 11 := ⟨⟨wm_806, wm_807, wm_808, wm_47, wm_809⟩, ⟨by decide, by decide, by decide +kernel⟩, ⟨_, rfl, rfl⟩⟩
theorem wm_1484 : (Jvm.Cond.methodLink "SheGoesOutLaw" (110 : Nat) ({ cls := "SheGoesOutModel", name := "again", desc := "(II)I" } : Jvm.MethodName)) ∈ gw := gw_at 1484 (by decide +kernel) (by decide +kernel)
theorem wm_1485 : (Jvm.Cond.instanceMethod ({ cls := "SheGoesOutModel", name := "again", desc := "(II)I" } : Jvm.MethodName)) ∈ gw := gw_at 1485 (by decide +kernel) (by decide +kernel)
theorem wm_1486 : (Jvm.Cond.selects "SheGoesOutModel" ({ cls := "SheGoesOutModel", name := "again", desc := "(II)I" } : Jvm.MethodName) ({ cls := "SheGoesOutModel", name := "again", desc := "(II)I" } : Jvm.MethodName)) ∈ gw := gw_at 1486 (by decide +kernel) (by decide +kernel)
theorem wm_1487 : (Jvm.Cond.code ({ cls := "SheGoesOutModel", name := "again", desc := "(II)I" } : Jvm.MethodName) prog_14_method_51_code (11 : Nat) (Option.some Jvm.ClassFile.FieldType.int)) ∈ gw := gw_at 1487 (by decide +kernel) (by decide +kernel)
theorem cv_RL_110 : gcv RL 110 yX12_again cX12_again 11 (some .int) 2 12 := ⟨⟨wm_1484, wm_1485, wm_1486, wm_59, wm_1487⟩, ⟨by decide, by decide, by decide +kernel⟩, ⟨_, rfl, rfl⟩⟩
theorem wm_820 : (Jvm.Cond.methodLink "SheGoesOutLaw" (111 : Nat) ({ cls := "SheGoesOut", name := "call", desc := "(III)I" } : Jvm.MethodName)) ∈ gw := gw_at 820 (by decide +kernel) (by decide +kernel)
theorem wm_821 : (Jvm.Cond.instanceMethod ({ cls := "SheGoesOut", name := "call", desc := "(III)I" } : Jvm.MethodName)) ∈ gw := gw_at 821 (by decide +kernel) (by decide +kernel)
theorem wm_822 : (Jvm.Cond.selects "SheGoesOut" ({ cls := "SheGoesOut", name := "call", desc := "(III)I" } : Jvm.MethodName) ({ cls := "SheGoesOut", name := "call", desc := "(III)I" } : Jvm.MethodName)) ∈ gw := gw_at 822 (by decide +kernel) (by decide +kernel)
theorem wm_823 : (Jvm.Cond.code ({ cls := "SheGoesOut", name := "call", desc := "(III)I" } : Jvm.MethodName) prog_1_method_24_code (6 : Nat) (Option.some Jvm.ClassFile.FieldType.int)) ∈ gw := gw_at 823 (by decide +kernel) (by decide +kernel)
theorem cv_RL_111 : gcv RL 111 yX11_call cX11_call 6 (some .int) 3 11 := ⟨⟨wm_820, wm_821, wm_822, wm_47, wm_823⟩, ⟨by decide, by decide, by decide +kernel⟩, ⟨_, rfl, rfl⟩⟩
theorem wm_1488 : (Jvm.Cond.methodLink "SheGoesOutLaw" (114 : Nat) ({ cls := "SheGoesOutModel", name := "call", desc := "(III)I" } : Jvm.MethodName)) ∈ gw := gw_at 1488 (by decide +kernel) (by decide +kernel)
theorem wm_1489 : (Jvm.Cond.instanceMethod ({ cls := "SheGoesOutModel", name := "call", desc := "(III)I" } : Jvm.MethodName)) ∈ gw := gw_at 1489 (by decide +kernel) (by decide +kernel)
theorem wm_1490 : (Jvm.Cond.selects "SheGoesOutModel" ({ cls := "SheGoesOutModel", name := "call", desc := "(III)I" } : Jvm.MethodName) ({ cls := "SheGoesOutModel", name := "call", desc := "(III)I" } : Jvm.MethodName)) ∈ gw := gw_at 1490 (by decide +kernel) (by decide +kernel)
theorem wm_1491 : (Jvm.Cond.code ({ cls := "SheGoesOutModel", name := "call", desc := "(III)I" } : Jvm.MethodName) prog_14_method_54_code (7 : Nat) (Option.some Jvm.ClassFile.FieldType.int)) ∈ gw := gw_at 1491 (by decide +kernel) (by decide +kernel)
theorem cv_RL_114 : gcv RL 114 yX12_call cX12_call 7 (some .int) 3 12 := ⟨⟨wm_1488, wm_1489, wm_1490, wm_59, wm_1491⟩, ⟨by decide, by decide, by decide +kernel⟩, ⟨_, rfl, rfl⟩⟩
theorem wm_833 : (Jvm.Cond.methodLink "SheGoesOutLaw" (115 : Nat) ({ cls := "SheGoesOut", name := "truly", desc := "(IIII)J" } : Jvm.MethodName)) ∈ gw := gw_at 833 (by decide +kernel) (by decide +kernel)
theorem wm_834 : (Jvm.Cond.instanceMethod ({ cls := "SheGoesOut", name := "truly", desc := "(IIII)J" } : Jvm.MethodName)) ∈ gw := gw_at 834 (by decide +kernel) (by decide +kernel)
theorem wm_835 : (Jvm.Cond.selects "SheGoesOut" ({ cls := "SheGoesOut", name := "truly", desc := "(IIII)J" } : Jvm.MethodName) ({ cls := "SheGoesOut", name := "truly", desc := "(IIII)J" } : Jvm.MethodName)) ∈ gw := gw_at 835 (by decide +kernel) (by decide +kernel)
theorem wm_836 : (Jvm.Cond.code ({ cls := "SheGoesOut", name := "truly", desc := "(IIII)J" } : Jvm.MethodName) prog_1_method_25_code (11 : Nat) (Option.some Jvm.ClassFile.FieldType.long)) ∈ gw := gw_at 836 (by decide +kernel) (by decide +kernel)
theorem cv_RL_115 : gcv RL 115 yX11_truly cX11_truly 11 (some .long) 4 11 := ⟨⟨wm_833, wm_834, wm_835, wm_47, wm_836⟩, ⟨by decide, by decide, by decide +kernel⟩, ⟨_, rfl, rfl⟩⟩
theorem wm_1499 : (Jvm.Cond.methodLink "SheGoesOutLaw" (119 : Nat) ({ cls := "SheGoesOutModel", name := "truly", desc := "(IIII)J" } : Jvm.MethodName)) ∈ gw := gw_at 1499 (by decide +kernel) (by decide +kernel)
theorem wm_1500 : (Jvm.Cond.instanceMethod ({ cls := "SheGoesOutModel", name := "truly", desc := "(IIII)J" } : Jvm.MethodName)) ∈ gw := gw_at 1500 (by decide +kernel) (by decide +kernel)
theorem wm_1501 : (Jvm.Cond.selects "SheGoesOutModel" ({ cls := "SheGoesOutModel", name := "truly", desc := "(IIII)J" } : Jvm.MethodName) ({ cls := "SheGoesOutModel", name := "truly", desc := "(IIII)J" } : Jvm.MethodName)) ∈ gw := gw_at 1501 (by decide +kernel) (by decide +kernel)
theorem wm_1502 : (Jvm.Cond.code ({ cls := "SheGoesOutModel", name := "truly", desc := "(IIII)J" } : Jvm.MethodName) prog_14_method_55_code (12 : Nat) (Option.some Jvm.ClassFile.FieldType.long)) ∈ gw := gw_at 1502 (by decide +kernel) (by decide +kernel)
theorem cv_RL_119 : gcv RL 119 yX12_truly cX12_truly 12 (some .long) 4 12 := ⟨⟨wm_1499, wm_1500, wm_1501, wm_59, wm_1502⟩, ⟨by decide, by decide, by decide +kernel⟩, ⟨_, rfl, rfl⟩⟩
theorem wm_846 : (Jvm.Cond.methodLink "SheGoesOutLaw" (120 : Nat) ({ cls := "SheGoesOut", name := "job", desc := "(III)I" } : Jvm.MethodName)) ∈ gw := gw_at 846 (by decide +kernel) (by decide +kernel)
theorem wm_847 : (Jvm.Cond.instanceMethod ({ cls := "SheGoesOut", name := "job", desc := "(III)I" } : Jvm.MethodName)) ∈ gw := gw_at 847 (by decide +kernel) (by decide +kernel)
theorem wm_848 : (Jvm.Cond.selects "SheGoesOut" ({ cls := "SheGoesOut", name := "job", desc := "(III)I" } : Jvm.MethodName) ({ cls := "SheGoesOut", name := "job", desc := "(III)I" } : Jvm.MethodName)) ∈ gw := gw_at 848 (by decide +kernel) (by decide +kernel)
theorem wm_849 : (Jvm.Cond.code ({ cls := "SheGoesOut", name := "job", desc := "(III)I" } : Jvm.MethodName) prog_1_method_26_code (4 : Nat) (Option.some Jvm.ClassFile.FieldType.int)) ∈ gw := gw_at 849 (by decide +kernel) (by decide +kernel)
theorem cv_RL_120 : gcv RL 120 yX11_job cX11_job 4 (some .int) 3 11 := ⟨⟨wm_846, wm_847, wm_848, wm_47, wm_849⟩, ⟨by decide, by decide, by decide +kernel⟩, ⟨_, rfl, rfl⟩⟩
theorem wm_1504 : (Jvm.Cond.methodLink "SheGoesOutLaw" (123 : Nat) ({ cls := "SheGoesOutModel", name := "job", desc := "(III)I" } : Jvm.MethodName)) ∈ gw := gw_at 1504 (by decide +kernel) (by decide +kernel)
theorem wm_1505 : (Jvm.Cond.instanceMethod ({ cls := "SheGoesOutModel", name := "job", desc := "(III)I" } : Jvm.MethodName)) ∈ gw := gw_at 1505 (by decide +kernel) (by decide +kernel)
theorem wm_1506 : (Jvm.Cond.selects "SheGoesOutModel" ({ cls := "SheGoesOutModel", name := "job", desc := "(III)I" } : Jvm.MethodName) ({ cls := "SheGoesOutModel", name := "job", desc := "(III)I" } : Jvm.MethodName)) ∈ gw := gw_at 1506 (by decide +kernel) (by decide +kernel)
theorem wm_1507 : (Jvm.Cond.code ({ cls := "SheGoesOutModel", name := "job", desc := "(III)I" } : Jvm.MethodName) prog_14_method_56_code (4 : Nat) (Option.some Jvm.ClassFile.FieldType.int)) ∈ gw := gw_at 1507 (by decide +kernel) (by decide +kernel)
theorem cv_RL_123 : gcv RL 123 yX12_job cX12_job 4 (some .int) 3 12 := ⟨⟨wm_1504, wm_1505, wm_1506, wm_59, wm_1507⟩, ⟨by decide, by decide, by decide +kernel⟩, ⟨_, rfl, rfl⟩⟩
theorem wm_854 : (Jvm.Cond.methodLink "SheGoesOutLaw" (124 : Nat) ({ cls := "SheGoesOut", name := "order", desc := "(I)J" } : Jvm.MethodName)) ∈ gw := gw_at 854 (by decide +kernel) (by decide +kernel)
theorem wm_855 : (Jvm.Cond.instanceMethod ({ cls := "SheGoesOut", name := "order", desc := "(I)J" } : Jvm.MethodName)) ∈ gw := gw_at 855 (by decide +kernel) (by decide +kernel)
theorem wm_856 : (Jvm.Cond.selects "SheGoesOut" ({ cls := "SheGoesOut", name := "order", desc := "(I)J" } : Jvm.MethodName) ({ cls := "SheGoesOut", name := "order", desc := "(I)J" } : Jvm.MethodName)) ∈ gw := gw_at 856 (by decide +kernel) (by decide +kernel)
theorem wm_857 : (Jvm.Cond.code ({ cls := "SheGoesOut", name := "order", desc := "(I)J" } : Jvm.MethodName) prog_1_method_27_code (2 : Nat) (Option.some Jvm.ClassFile.FieldType.long)) ∈ gw := gw_at 857 (by decide +kernel) (by decide +kernel)
theorem cv_RL_124 : gcv RL 124 yX11_order cX11_order 2 (some .long) 1 11 := ⟨⟨wm_854, wm_855, wm_856, wm_47, wm_857⟩, ⟨by decide, by decide, by decide +kernel⟩, ⟨_, rfl, rfl⟩⟩
theorem wm_1508 : (Jvm.Cond.methodLink "SheGoesOutLaw" (127 : Nat) ({ cls := "SheGoesOutModel", name := "order", desc := "(I)J" } : Jvm.MethodName)) ∈ gw := gw_at 1508 (by decide +kernel) (by decide +kernel)
theorem wm_1509 : (Jvm.Cond.instanceMethod ({ cls := "SheGoesOutModel", name := "order", desc := "(I)J" } : Jvm.MethodName)) ∈ gw := gw_at 1509 (by decide +kernel) (by decide +kernel)
theorem wm_1510 : (Jvm.Cond.selects "SheGoesOutModel" ({ cls := "SheGoesOutModel", name := "order", desc := "(I)J" } : Jvm.MethodName) ({ cls := "SheGoesOutModel", name := "order", desc := "(I)J" } : Jvm.MethodName)) ∈ gw := gw_at 1510 (by decide +kernel) (by decide +kernel)
theorem wm_1511 : (Jvm.Cond.code ({ cls := "SheGoesOutModel", name := "order", desc := "(I)J" } : Jvm.MethodName) prog_14_method_58_code (10 : Nat) (Option.some Jvm.ClassFile.FieldType.long)) ∈ gw := gw_at 1511 (by decide +kernel) (by decide +kernel)
theorem cv_RL_127 : gcv RL 127 yX12_order cX12_order 10 (some .long) 1 12 := ⟨⟨wm_1508, wm_1509, wm_1510, wm_59, wm_1511⟩, ⟨by decide, by decide, by decide +kernel⟩, ⟨_, rfl, rfl⟩⟩
theorem wm_869 : (Jvm.Cond.methodLink "SheGoesOutLaw" (128 : Nat) ({ cls := "SheGoesOut", name := "found", desc := "(III)I" } : Jvm.MethodName)) ∈ gw := gw_at 869 (by decide +kernel) (by decide +kernel)
theorem wm_870 : (Jvm.Cond.instanceMethod ({ cls := "SheGoesOut", name := "found", desc := "(III)I" } : Jvm.MethodName)) ∈ gw := gw_at 870 (by decide +kernel) (by decide +kernel)
theorem wm_871 : (Jvm.Cond.selects "SheGoesOut" ({ cls := "SheGoesOut", name := "found", desc := "(III)I" } : Jvm.MethodName) ({ cls := "SheGoesOut", name := "found", desc := "(III)I" } : Jvm.MethodName)) ∈ gw := gw_at 871 (by decide +kernel) (by decide +kernel)
theorem wm_872 : (Jvm.Cond.code ({ cls := "SheGoesOut", name := "found", desc := "(III)I" } : Jvm.MethodName) prog_1_method_28_code (4 : Nat) (Option.some Jvm.ClassFile.FieldType.int)) ∈ gw := gw_at 872 (by decide +kernel) (by decide +kernel)
theorem cv_RL_128 : gcv RL 128 yX11_found cX11_found 4 (some .int) 3 11 := ⟨⟨wm_869, wm_870, wm_871, wm_47, wm_872⟩, ⟨by decide, by decide, by decide +kernel⟩, ⟨_, rfl, rfl⟩⟩
theorem wm_1516 : (Jvm.Cond.methodLink "SheGoesOutLaw" (131 : Nat) ({ cls := "SheGoesOutModel", name := "found", desc := "(III)I" } : Jvm.MethodName)) ∈ gw := gw_at 1516 (by decide +kernel) (by decide +kernel)
theorem wm_1517 : (Jvm.Cond.instanceMethod ({ cls := "SheGoesOutModel", name := "found", desc := "(III)I" } : Jvm.MethodName)) ∈ gw := gw_at 1517 (by decide +kernel) (by decide +kernel)
theorem wm_1518 : (Jvm.Cond.selects "SheGoesOutModel" ({ cls := "SheGoesOutModel", name := "found", desc := "(III)I" } : Jvm.MethodName) ({ cls := "SheGoesOutModel", name := "found", desc := "(III)I" } : Jvm.MethodName)) ∈ gw := gw_at 1518 (by decide +kernel) (by decide +kernel)
theorem wm_1519 : (Jvm.Cond.code ({ cls := "SheGoesOutModel", name := "found", desc := "(III)I" } : Jvm.MethodName) prog_14_method_61_code (4 : Nat) (Option.some Jvm.ClassFile.FieldType.int)) ∈ gw := gw_at 1519 (by decide +kernel) (by decide +kernel)
theorem cv_RL_131 : gcv RL 131 yX12_found cX12_found 4 (some .int) 3 12 := ⟨⟨wm_1516, wm_1517, wm_1518, wm_59, wm_1519⟩, ⟨by decide, by decide, by decide +kernel⟩, ⟨_, rfl, rfl⟩⟩
theorem wm_883 : (Jvm.Cond.methodLink "SheGoesOutLaw" (132 : Nat) ({ cls := "SheGoesOut", name := "share", desc := "(II)I" } : Jvm.MethodName)) ∈ gw := gw_at 883 (by decide +kernel) (by decide +kernel)
theorem wm_884 : (Jvm.Cond.instanceMethod ({ cls := "SheGoesOut", name := "share", desc := "(II)I" } : Jvm.MethodName)) ∈ gw := gw_at 884 (by decide +kernel) (by decide +kernel)
theorem wm_885 : (Jvm.Cond.selects "SheGoesOut" ({ cls := "SheGoesOut", name := "share", desc := "(II)I" } : Jvm.MethodName) ({ cls := "SheGoesOut", name := "share", desc := "(II)I" } : Jvm.MethodName)) ∈ gw := gw_at 885 (by decide +kernel) (by decide +kernel)
theorem wm_886 : (Jvm.Cond.code ({ cls := "SheGoesOut", name := "share", desc := "(II)I" } : Jvm.MethodName) prog_1_method_29_code (3 : Nat) (Option.some Jvm.ClassFile.FieldType.int)) ∈ gw := gw_at 886 (by decide +kernel) (by decide +kernel)
theorem cv_RL_132 : gcv RL 132 yX11_share cX11_share 3 (some .int) 2 11 := ⟨⟨wm_883, wm_884, wm_885, wm_47, wm_886⟩, ⟨by decide, by decide, by decide +kernel⟩, ⟨_, rfl, rfl⟩⟩
theorem wm_1528 : (Jvm.Cond.methodLink "SheGoesOutLaw" (135 : Nat) ({ cls := "SheGoesOutModel", name := "share", desc := "(II)I" } : Jvm.MethodName)) ∈ gw := gw_at 1528 (by decide +kernel) (by decide +kernel)
theorem wm_1529 : (Jvm.Cond.instanceMethod ({ cls := "SheGoesOutModel", name := "share", desc := "(II)I" } : Jvm.MethodName)) ∈ gw := gw_at 1529 (by decide +kernel) (by decide +kernel)
theorem wm_1530 : (Jvm.Cond.selects "SheGoesOutModel" ({ cls := "SheGoesOutModel", name := "share", desc := "(II)I" } : Jvm.MethodName) ({ cls := "SheGoesOutModel", name := "share", desc := "(II)I" } : Jvm.MethodName)) ∈ gw := gw_at 1530 (by decide +kernel) (by decide +kernel)
theorem wm_1531 : (Jvm.Cond.code ({ cls := "SheGoesOutModel", name := "share", desc := "(II)I" } : Jvm.MethodName) prog_14_method_62_code (5 : Nat) (Option.some Jvm.ClassFile.FieldType.int)) ∈ gw := gw_at 1531 (by decide +kernel) (by decide +kernel)
theorem cv_RL_135 : gcv RL 135 yX12_share cX12_share 5 (some .int) 2 12 := ⟨⟨wm_1528, wm_1529, wm_1530, wm_59, wm_1531⟩, ⟨by decide, by decide, by decide +kernel⟩, ⟨_, rfl, rfl⟩⟩
theorem wm_891 : (Jvm.Cond.methodLink "SheGoesOutLaw" (136 : Nat) ({ cls := "SheGoesOut", name := "span", desc := "(II)I" } : Jvm.MethodName)) ∈ gw := gw_at 891 (by decide +kernel) (by decide +kernel)
theorem wm_892 : (Jvm.Cond.instanceMethod ({ cls := "SheGoesOut", name := "span", desc := "(II)I" } : Jvm.MethodName)) ∈ gw := gw_at 892 (by decide +kernel) (by decide +kernel)
theorem wm_893 : (Jvm.Cond.selects "SheGoesOut" ({ cls := "SheGoesOut", name := "span", desc := "(II)I" } : Jvm.MethodName) ({ cls := "SheGoesOut", name := "span", desc := "(II)I" } : Jvm.MethodName)) ∈ gw := gw_at 893 (by decide +kernel) (by decide +kernel)
theorem wm_894 : (Jvm.Cond.code ({ cls := "SheGoesOut", name := "span", desc := "(II)I" } : Jvm.MethodName) prog_1_method_30_code (4 : Nat) (Option.some Jvm.ClassFile.FieldType.int)) ∈ gw := gw_at 894 (by decide +kernel) (by decide +kernel)
theorem cv_RL_136 : gcv RL 136 yX11_span cX11_span 4 (some .int) 2 11 := ⟨⟨wm_891, wm_892, wm_893, wm_47, wm_894⟩, ⟨by decide, by decide, by decide +kernel⟩, ⟨_, rfl, rfl⟩⟩
theorem wm_1532 : (Jvm.Cond.methodLink "SheGoesOutLaw" (139 : Nat) ({ cls := "SheGoesOutModel", name := "span", desc := "(II)I" } : Jvm.MethodName)) ∈ gw := gw_at 1532 (by decide +kernel) (by decide +kernel)
theorem wm_1533 : (Jvm.Cond.instanceMethod ({ cls := "SheGoesOutModel", name := "span", desc := "(II)I" } : Jvm.MethodName)) ∈ gw := gw_at 1533 (by decide +kernel) (by decide +kernel)
theorem wm_1534 : (Jvm.Cond.selects "SheGoesOutModel" ({ cls := "SheGoesOutModel", name := "span", desc := "(II)I" } : Jvm.MethodName) ({ cls := "SheGoesOutModel", name := "span", desc := "(II)I" } : Jvm.MethodName)) ∈ gw := gw_at 1534 (by decide +kernel) (by decide +kernel)
theorem wm_1535 : (Jvm.Cond.code ({ cls := "SheGoesOutModel", name := "span", desc := "(II)I" } : Jvm.MethodName) prog_14_method_64_code (3 : Nat) (Option.some Jvm.ClassFile.FieldType.int)) ∈ gw := gw_at 1535 (by decide +kernel) (by decide +kernel)
theorem cv_RL_139 : gcv RL 139 yX12_span cX12_span 3 (some .int) 2 12 := ⟨⟨wm_1532, wm_1533, wm_1534, wm_59, wm_1535⟩, ⟨by decide, by decide, by decide +kernel⟩, ⟨_, rfl, rfl⟩⟩
theorem wm_906 : (Jvm.Cond.methodLink "SheGoesOutLaw" (140 : Nat) ({ cls := "SheGoesOut", name := "held", desc := "()I" } : Jvm.MethodName)) ∈ gw := gw_at 906 (by decide +kernel) (by decide +kernel)
theorem wm_907 : (Jvm.Cond.instanceMethod ({ cls := "SheGoesOut", name := "held", desc := "()I" } : Jvm.MethodName)) ∈ gw := gw_at 907 (by decide +kernel) (by decide +kernel)
theorem wm_908 : (Jvm.Cond.selects "SheGoesOut" ({ cls := "SheGoesOut", name := "held", desc := "()I" } : Jvm.MethodName) ({ cls := "SheGoesOut", name := "held", desc := "()I" } : Jvm.MethodName)) ∈ gw := gw_at 908 (by decide +kernel) (by decide +kernel)
theorem wm_909 : (Jvm.Cond.code ({ cls := "SheGoesOut", name := "held", desc := "()I" } : Jvm.MethodName) prog_1_method_31_code (1 : Nat) (Option.some Jvm.ClassFile.FieldType.int)) ∈ gw := gw_at 909 (by decide +kernel) (by decide +kernel)
theorem cv_RL_140 : gcv RL 140 yX11_held cX11_held 1 (some .int) 0 11 := ⟨⟨wm_906, wm_907, wm_908, wm_47, wm_909⟩, ⟨by decide, by decide, by decide +kernel⟩, ⟨_, rfl, rfl⟩⟩
theorem wm_1541 : (Jvm.Cond.methodLink "SheGoesOutLaw" (143 : Nat) ({ cls := "SheGoesOutModel", name := "held", desc := "()I" } : Jvm.MethodName)) ∈ gw := gw_at 1541 (by decide +kernel) (by decide +kernel)
theorem wm_1542 : (Jvm.Cond.instanceMethod ({ cls := "SheGoesOutModel", name := "held", desc := "()I" } : Jvm.MethodName)) ∈ gw := gw_at 1542 (by decide +kernel) (by decide +kernel)
theorem wm_1543 : (Jvm.Cond.selects "SheGoesOutModel" ({ cls := "SheGoesOutModel", name := "held", desc := "()I" } : Jvm.MethodName) ({ cls := "SheGoesOutModel", name := "held", desc := "()I" } : Jvm.MethodName)) ∈ gw := gw_at 1543 (by decide +kernel) (by decide +kernel)
theorem wm_1544 : (Jvm.Cond.code ({ cls := "SheGoesOutModel", name := "held", desc := "()I" } : Jvm.MethodName) prog_14_method_65_code (3 : Nat) (Option.some Jvm.ClassFile.FieldType.int)) ∈ gw := gw_at 1544 (by decide +kernel) (by decide +kernel)
theorem cv_RL_143 : gcv RL 143 yX12_held cX12_held 3 (some .int) 0 12 := ⟨⟨wm_1541, wm_1542, wm_1543, wm_59, wm_1544⟩, ⟨by decide, by decide, by decide +kernel⟩, ⟨_, rfl, rfl⟩⟩
theorem wm_914 : (Jvm.Cond.methodLink "SheGoesOutLaw" (144 : Nat) ({ cls := "SheGoesOut", name := "measure", desc := "(II)I" } : Jvm.MethodName)) ∈ gw := gw_at 914 (by decide +kernel) (by decide +kernel)
theorem wm_915 : (Jvm.Cond.instanceMethod ({ cls := "SheGoesOut", name := "measure", desc := "(II)I" } : Jvm.MethodName)) ∈ gw := gw_at 915 (by decide +kernel) (by decide +kernel)
theorem wm_916 : (Jvm.Cond.selects "SheGoesOut" ({ cls := "SheGoesOut", name := "measure", desc := "(II)I" } : Jvm.MethodName) ({ cls := "SheGoesOut", name := "measure", desc := "(II)I" } : Jvm.MethodName)) ∈ gw := gw_at 916 (by decide +kernel) (by decide +kernel)
theorem wm_917 : (Jvm.Cond.code ({ cls := "SheGoesOut", name := "measure", desc := "(II)I" } : Jvm.MethodName) prog_1_method_32_code (3 : Nat) (Option.some Jvm.ClassFile.FieldType.int)) ∈ gw := gw_at 917 (by decide +kernel) (by decide +kernel)
theorem cv_RL_144 : gcv RL 144 yX11_measure cX11_measure 3 (some .int) 2 11 := ⟨⟨wm_914, wm_915, wm_916, wm_47, wm_917⟩, ⟨by decide, by decide, by decide +kernel⟩, ⟨_, rfl, rfl⟩⟩
theorem wm_1545 : (Jvm.Cond.methodLink "SheGoesOutLaw" (147 : Nat) ({ cls := "SheGoesOutModel", name := "measure", desc := "(II)I" } : Jvm.MethodName)) ∈ gw := gw_at 1545 (by decide +kernel) (by decide +kernel)
theorem wm_1546 : (Jvm.Cond.instanceMethod ({ cls := "SheGoesOutModel", name := "measure", desc := "(II)I" } : Jvm.MethodName)) ∈ gw := gw_at 1546 (by decide +kernel) (by decide +kernel)
theorem wm_1547 : (Jvm.Cond.selects "SheGoesOutModel" ({ cls := "SheGoesOutModel", name := "measure", desc := "(II)I" } : Jvm.MethodName) ({ cls := "SheGoesOutModel", name := "measure", desc := "(II)I" } : Jvm.MethodName)) ∈ gw := gw_at 1547 (by decide +kernel) (by decide +kernel)
theorem wm_1548 : (Jvm.Cond.code ({ cls := "SheGoesOutModel", name := "measure", desc := "(II)I" } : Jvm.MethodName) prog_14_method_66_code (3 : Nat) (Option.some Jvm.ClassFile.FieldType.int)) ∈ gw := gw_at 1548 (by decide +kernel) (by decide +kernel)
theorem cv_RL_147 : gcv RL 147 yX12_measure cX12_measure 3 (some .int) 2 12 := ⟨⟨wm_1545, wm_1546, wm_1547, wm_59, wm_1548⟩, ⟨by decide, by decide, by decide +kernel⟩, ⟨_, rfl, rfl⟩⟩
theorem wm_922 : (Jvm.Cond.methodLink "SheGoesOutLaw" (148 : Nat) ({ cls := "SheGoesOut", name := "leaves", desc := "(II)J" } : Jvm.MethodName)) ∈ gw := gw_at 922 (by decide +kernel) (by decide +kernel)
theorem wm_923 : (Jvm.Cond.instanceMethod ({ cls := "SheGoesOut", name := "leaves", desc := "(II)J" } : Jvm.MethodName)) ∈ gw := gw_at 923 (by decide +kernel) (by decide +kernel)
theorem wm_924 : (Jvm.Cond.selects "SheGoesOut" ({ cls := "SheGoesOut", name := "leaves", desc := "(II)J" } : Jvm.MethodName) ({ cls := "SheGoesOut", name := "leaves", desc := "(II)J" } : Jvm.MethodName)) ∈ gw := gw_at 924 (by decide +kernel) (by decide +kernel)
theorem wm_925 : (Jvm.Cond.code ({ cls := "SheGoesOut", name := "leaves", desc := "(II)J" } : Jvm.MethodName) prog_1_method_33_code (3 : Nat) (Option.some Jvm.ClassFile.FieldType.long)) ∈ gw := gw_at 925 (by decide +kernel) (by decide +kernel)
theorem cv_RL_148 : gcv RL 148 yX11_leaves cX11_leaves 3 (some .long) 2 11 := ⟨⟨wm_922, wm_923, wm_924, wm_47, wm_925⟩, ⟨by decide, by decide, by decide +kernel⟩, ⟨_, rfl, rfl⟩⟩
theorem wm_1549 : (Jvm.Cond.methodLink "SheGoesOutLaw" (151 : Nat) ({ cls := "SheGoesOutModel", name := "leaves", desc := "(II)J" } : Jvm.MethodName)) ∈ gw := gw_at 1549 (by decide +kernel) (by decide +kernel)
theorem wm_1550 : (Jvm.Cond.instanceMethod ({ cls := "SheGoesOutModel", name := "leaves", desc := "(II)J" } : Jvm.MethodName)) ∈ gw := gw_at 1550 (by decide +kernel) (by decide +kernel)
theorem wm_1551 : (Jvm.Cond.selects "SheGoesOutModel" ({ cls := "SheGoesOutModel", name := "leaves", desc := "(II)J" } : Jvm.MethodName) ({ cls := "SheGoesOutModel", name := "leaves", desc := "(II)J" } : Jvm.MethodName)) ∈ gw := gw_at 1551 (by decide +kernel) (by decide +kernel)
theorem wm_1552 : (Jvm.Cond.code ({ cls := "SheGoesOutModel", name := "leaves", desc := "(II)J" } : Jvm.MethodName) prog_14_method_68_code (3 : Nat) (Option.some Jvm.ClassFile.FieldType.long)) ∈ gw := gw_at 1552 (by decide +kernel) (by decide +kernel)
theorem cv_RL_151 : gcv RL 151 yX12_leaves cX12_leaves 3 (some .long) 2 12 := ⟨⟨wm_1549, wm_1550, wm_1551, wm_59, wm_1552⟩, ⟨by decide, by decide, by decide +kernel⟩, ⟨_, rfl, rfl⟩⟩
theorem wm_944 : (Jvm.Cond.methodLink "SheGoesOutLaw" (152 : Nat) ({ cls := "SheGoesOut", name := "least", desc := "(II)I" } : Jvm.MethodName)) ∈ gw := gw_at 944 (by decide +kernel) (by decide +kernel)
theorem wm_945 : (Jvm.Cond.instanceMethod ({ cls := "SheGoesOut", name := "least", desc := "(II)I" } : Jvm.MethodName)) ∈ gw := gw_at 945 (by decide +kernel) (by decide +kernel)
theorem wm_946 : (Jvm.Cond.selects "SheGoesOut" ({ cls := "SheGoesOut", name := "least", desc := "(II)I" } : Jvm.MethodName) ({ cls := "SheGoesOut", name := "least", desc := "(II)I" } : Jvm.MethodName)) ∈ gw := gw_at 946 (by decide +kernel) (by decide +kernel)
theorem wm_947 : (Jvm.Cond.code ({ cls := "SheGoesOut", name := "least", desc := "(II)I" } : Jvm.MethodName) prog_1_method_34_code (4 : Nat) (Option.some Jvm.ClassFile.FieldType.int)) ∈ gw := gw_at 947 (by decide +kernel) (by decide +kernel)
theorem cv_RL_152 : gcv RL 152 yX11_least cX11_least 4 (some .int) 2 11 := ⟨⟨wm_944, wm_945, wm_946, wm_47, wm_947⟩, ⟨by decide, by decide, by decide +kernel⟩, ⟨_, rfl, rfl⟩⟩
theorem wm_1557 : (Jvm.Cond.methodLink "SheGoesOutLaw" (155 : Nat) ({ cls := "SheGoesOutModel", name := "least", desc := "(II)I" } : Jvm.MethodName)) ∈ gw := gw_at 1557 (by decide +kernel) (by decide +kernel)
theorem wm_1558 : (Jvm.Cond.instanceMethod ({ cls := "SheGoesOutModel", name := "least", desc := "(II)I" } : Jvm.MethodName)) ∈ gw := gw_at 1558 (by decide +kernel) (by decide +kernel)
theorem wm_1559 : (Jvm.Cond.selects "SheGoesOutModel" ({ cls := "SheGoesOutModel", name := "least", desc := "(II)I" } : Jvm.MethodName) ({ cls := "SheGoesOutModel", name := "least", desc := "(II)I" } : Jvm.MethodName)) ∈ gw := gw_at 1559 (by decide +kernel) (by decide +kernel)
theorem wm_1560 : (Jvm.Cond.code ({ cls := "SheGoesOutModel", name := "least", desc := "(II)I" } : Jvm.MethodName) prog_14_method_69_code (8 : Nat) (Option.some Jvm.ClassFile.FieldType.int)) ∈ gw := gw_at 1560 (by decide +kernel) (by decide +kernel)
theorem cv_RL_155 : gcv RL 155 yX12_least cX12_least 8 (some .int) 2 12 := ⟨⟨wm_1557, wm_1558, wm_1559, wm_59, wm_1560⟩, ⟨by decide, by decide, by decide +kernel⟩, ⟨_, rfl, rfl⟩⟩
theorem wm_960 : (Jvm.Cond.methodLink "SheGoesOutLaw" (156 : Nat) ({ cls := "SheGoesOut", name := "net", desc := "(II)J" } : Jvm.MethodName)) ∈ gw := gw_at 960 (by decide +kernel) (by decide +kernel)
theorem wm_961 : (Jvm.Cond.instanceMethod ({ cls := "SheGoesOut", name := "net", desc := "(II)J" } : Jvm.MethodName)) ∈ gw := gw_at 961 (by decide +kernel) (by decide +kernel)
theorem wm_962 : (Jvm.Cond.selects "SheGoesOut" ({ cls := "SheGoesOut", name := "net", desc := "(II)J" } : Jvm.MethodName) ({ cls := "SheGoesOut", name := "net", desc := "(II)J" } : Jvm.MethodName)) ∈ gw := gw_at 962 (by decide +kernel) (by decide +kernel)
theorem wm_963 : (Jvm.Cond.code ({ cls := "SheGoesOut", name := "net", desc := "(II)J" } : Jvm.MethodName) prog_1_method_35_code (3 : Nat) (Option.some Jvm.ClassFile.FieldType.long)) ∈ gw := gw_at 963 (by decide +kernel) (by decide +kernel)
theorem cv_RL_156 : gcv RL 156 yX11_net cX11_net 3 (some .long) 2 11 := ⟨⟨wm_960, wm_961, wm_962, wm_47, wm_963⟩, ⟨by decide, by decide, by decide +kernel⟩, ⟨_, rfl, rfl⟩⟩
theorem wm_1561 : (Jvm.Cond.methodLink "SheGoesOutLaw" (159 : Nat) ({ cls := "SheGoesOutModel", name := "net", desc := "(II)J" } : Jvm.MethodName)) ∈ gw := gw_at 1561 (by decide +kernel) (by decide +kernel)
theorem wm_1562 : (Jvm.Cond.instanceMethod ({ cls := "SheGoesOutModel", name := "net", desc := "(II)J" } : Jvm.MethodName)) ∈ gw := gw_at 1562 (by decide +kernel) (by decide +kernel)
theorem wm_1563 : (Jvm.Cond.selects "SheGoesOutModel" ({ cls := "SheGoesOutModel", name := "net", desc := "(II)J" } : Jvm.MethodName) ({ cls := "SheGoesOutModel", name := "net", desc := "(II)J" } : Jvm.MethodName)) ∈ gw := gw_at 1563 (by decide +kernel) (by decide +kernel)
theorem wm_1564 : (Jvm.Cond.code ({ cls := "SheGoesOutModel", name := "net", desc := "(II)J" } : Jvm.MethodName) prog_14_method_72_code (12 : Nat) (Option.some Jvm.ClassFile.FieldType.long)) ∈ gw := gw_at 1564 (by decide +kernel) (by decide +kernel)
theorem cv_RL_159 : gcv RL 159 yX12_net cX12_net 12 (some .long) 2 12 := ⟨⟨wm_1561, wm_1562, wm_1563, wm_59, wm_1564⟩, ⟨by decide, by decide, by decide +kernel⟩, ⟨_, rfl, rfl⟩⟩
theorem wm_992 : (Jvm.Cond.methodLink "SheGoesOutLaw" (160 : Nat) ({ cls := "SheGoesOut", name := "clear", desc := "()I" } : Jvm.MethodName)) ∈ gw := gw_at 992 (by decide +kernel) (by decide +kernel)
theorem wm_993 : (Jvm.Cond.instanceMethod ({ cls := "SheGoesOut", name := "clear", desc := "()I" } : Jvm.MethodName)) ∈ gw := gw_at 993 (by decide +kernel) (by decide +kernel)
theorem wm_994 : (Jvm.Cond.selects "SheGoesOut" ({ cls := "SheGoesOut", name := "clear", desc := "()I" } : Jvm.MethodName) ({ cls := "SheGoesOut", name := "clear", desc := "()I" } : Jvm.MethodName)) ∈ gw := gw_at 994 (by decide +kernel) (by decide +kernel)
theorem wm_995 : (Jvm.Cond.code ({ cls := "SheGoesOut", name := "clear", desc := "()I" } : Jvm.MethodName) prog_1_method_36_code (1 : Nat) (Option.some Jvm.ClassFile.FieldType.int)) ∈ gw := gw_at 995 (by decide +kernel) (by decide +kernel)
theorem cv_RL_160 : gcv RL 160 yX11_clear cX11_clear 1 (some .int) 0 11 := ⟨⟨wm_992, wm_993, wm_994, wm_47, wm_995⟩, ⟨by decide, by decide, by decide +kernel⟩, ⟨_, rfl, rfl⟩⟩
theorem wm_1572 : (Jvm.Cond.methodLink "SheGoesOutLaw" (163 : Nat) ({ cls := "SheGoesOutModel", name := "clear", desc := "()I" } : Jvm.MethodName)) ∈ gw := gw_at 1572 (by decide +kernel) (by decide +kernel)
theorem wm_1573 : (Jvm.Cond.instanceMethod ({ cls := "SheGoesOutModel", name := "clear", desc := "()I" } : Jvm.MethodName)) ∈ gw := gw_at 1573 (by decide +kernel) (by decide +kernel)
theorem wm_1574 : (Jvm.Cond.selects "SheGoesOutModel" ({ cls := "SheGoesOutModel", name := "clear", desc := "()I" } : Jvm.MethodName) ({ cls := "SheGoesOutModel", name := "clear", desc := "()I" } : Jvm.MethodName)) ∈ gw := gw_at 1574 (by decide +kernel) (by decide +kernel)
theorem wm_1575 : (Jvm.Cond.code ({ cls := "SheGoesOutModel", name := "clear", desc := "()I" } : Jvm.MethodName) prog_14_method_73_code (2 : Nat) (Option.some Jvm.ClassFile.FieldType.int)) ∈ gw := gw_at 1575 (by decide +kernel) (by decide +kernel)
theorem cv_RL_163 : gcv RL 163 yX12_clear cX12_clear 2 (some .int) 0 12 := ⟨⟨wm_1572, wm_1573, wm_1574, wm_59, wm_1575⟩, ⟨by decide, by decide, by decide +kernel⟩, ⟨_, rfl, rfl⟩⟩
theorem wm_1012 : (Jvm.Cond.methodLink "SheGoesOutLaw" (164 : Nat) ({ cls := "SheGoesOut", name := "image", desc := "()I" } : Jvm.MethodName)) ∈ gw := gw_at 1012 (by decide +kernel) (by decide +kernel)
theorem wm_1013 : (Jvm.Cond.instanceMethod ({ cls := "SheGoesOut", name := "image", desc := "()I" } : Jvm.MethodName)) ∈ gw := gw_at 1013 (by decide +kernel) (by decide +kernel)
theorem wm_1014 : (Jvm.Cond.selects "SheGoesOut" ({ cls := "SheGoesOut", name := "image", desc := "()I" } : Jvm.MethodName) ({ cls := "SheGoesOut", name := "image", desc := "()I" } : Jvm.MethodName)) ∈ gw := gw_at 1014 (by decide +kernel) (by decide +kernel)
theorem wm_1015 : (Jvm.Cond.code ({ cls := "SheGoesOut", name := "image", desc := "()I" } : Jvm.MethodName) prog_1_method_37_code (1 : Nat) (Option.some Jvm.ClassFile.FieldType.int)) ∈ gw := gw_at 1015 (by decide +kernel) (by decide +kernel)
theorem cv_RL_164 : gcv RL 164 yX11_image cX11_image 1 (some .int) 0 11 := ⟨⟨wm_1012, wm_1013, wm_1014, wm_47, wm_1015⟩, ⟨by decide, by decide, by decide +kernel⟩, ⟨_, rfl, rfl⟩⟩
theorem wm_1576 : (Jvm.Cond.methodLink "SheGoesOutLaw" (167 : Nat) ({ cls := "SheGoesOutModel", name := "image", desc := "()I" } : Jvm.MethodName)) ∈ gw := gw_at 1576 (by decide +kernel) (by decide +kernel)
theorem wm_1577 : (Jvm.Cond.instanceMethod ({ cls := "SheGoesOutModel", name := "image", desc := "()I" } : Jvm.MethodName)) ∈ gw := gw_at 1577 (by decide +kernel) (by decide +kernel)
theorem wm_1578 : (Jvm.Cond.selects "SheGoesOutModel" ({ cls := "SheGoesOutModel", name := "image", desc := "()I" } : Jvm.MethodName) ({ cls := "SheGoesOutModel", name := "image", desc := "()I" } : Jvm.MethodName)) ∈ gw := gw_at 1578 (by decide +kernel) (by decide +kernel)
theorem wm_1579 : (Jvm.Cond.code ({ cls := "SheGoesOutModel", name := "image", desc := "()I" } : Jvm.MethodName) prog_14_method_76_code (3 : Nat) (Option.some Jvm.ClassFile.FieldType.int)) ∈ gw := gw_at 1579 (by decide +kernel) (by decide +kernel)
theorem cv_RL_167 : gcv RL 167 yX12_image cX12_image 3 (some .int) 0 12 := ⟨⟨wm_1576, wm_1577, wm_1578, wm_59, wm_1579⟩, ⟨by decide, by decide, by decide +kernel⟩, ⟨_, rfl, rfl⟩⟩
theorem wm_1052 : (Jvm.Cond.methodLink "SheGoesOutLaw" (168 : Nat) ({ cls := "SheGoesOut", name := "restore", desc := "()I" } : Jvm.MethodName)) ∈ gw := gw_at 1052 (by decide +kernel) (by decide +kernel)
theorem wm_1053 : (Jvm.Cond.instanceMethod ({ cls := "SheGoesOut", name := "restore", desc := "()I" } : Jvm.MethodName)) ∈ gw := gw_at 1053 (by decide +kernel) (by decide +kernel)
theorem wm_1054 : (Jvm.Cond.selects "SheGoesOut" ({ cls := "SheGoesOut", name := "restore", desc := "()I" } : Jvm.MethodName) ({ cls := "SheGoesOut", name := "restore", desc := "()I" } : Jvm.MethodName)) ∈ gw := gw_at 1054 (by decide +kernel) (by decide +kernel)
theorem wm_1055 : (Jvm.Cond.code ({ cls := "SheGoesOut", name := "restore", desc := "()I" } : Jvm.MethodName) prog_1_method_38_code (1 : Nat) (Option.some Jvm.ClassFile.FieldType.int)) ∈ gw := gw_at 1055 (by decide +kernel) (by decide +kernel)
theorem cv_RL_168 : gcv RL 168 yX11_restore cX11_restore 1 (some .int) 0 11 := ⟨⟨wm_1052, wm_1053, wm_1054, wm_47, wm_1055⟩, ⟨by decide, by decide, by decide +kernel⟩, ⟨_, rfl, rfl⟩⟩
theorem wm_1584 : (Jvm.Cond.methodLink "SheGoesOutLaw" (171 : Nat) ({ cls := "SheGoesOutModel", name := "restore", desc := "()I" } : Jvm.MethodName)) ∈ gw := gw_at 1584 (by decide +kernel) (by decide +kernel)
theorem wm_1585 : (Jvm.Cond.instanceMethod ({ cls := "SheGoesOutModel", name := "restore", desc := "()I" } : Jvm.MethodName)) ∈ gw := gw_at 1585 (by decide +kernel) (by decide +kernel)
theorem wm_1586 : (Jvm.Cond.selects "SheGoesOutModel" ({ cls := "SheGoesOutModel", name := "restore", desc := "()I" } : Jvm.MethodName) ({ cls := "SheGoesOutModel", name := "restore", desc := "()I" } : Jvm.MethodName)) ∈ gw := gw_at 1586 (by decide +kernel) (by decide +kernel)
theorem wm_1587 : (Jvm.Cond.code ({ cls := "SheGoesOutModel", name := "restore", desc := "()I" } : Jvm.MethodName) prog_14_method_77_code (3 : Nat) (Option.some Jvm.ClassFile.FieldType.int)) ∈ gw := gw_at 1587 (by decide +kernel) (by decide +kernel)
theorem cv_RL_171 : gcv RL 171 yX12_restore cX12_restore 3 (some .int) 0 12 := ⟨⟨wm_1584, wm_1585, wm_1586, wm_59, wm_1587⟩, ⟨by decide, by decide, by decide +kernel⟩, ⟨_, rfl, rfl⟩⟩
theorem wm_1056 : (Jvm.Cond.methodLink "SheGoesOutLaw" (172 : Nat) ({ cls := "SheGoesOut", name := "status", desc := "(I)I" } : Jvm.MethodName)) ∈ gw := gw_at 1056 (by decide +kernel) (by decide +kernel)
theorem wm_1057 : (Jvm.Cond.instanceMethod ({ cls := "SheGoesOut", name := "status", desc := "(I)I" } : Jvm.MethodName)) ∈ gw := gw_at 1057 (by decide +kernel) (by decide +kernel)
theorem wm_1058 : (Jvm.Cond.selects "SheGoesOut" ({ cls := "SheGoesOut", name := "status", desc := "(I)I" } : Jvm.MethodName) ({ cls := "SheGoesOut", name := "status", desc := "(I)I" } : Jvm.MethodName)) ∈ gw := gw_at 1058 (by decide +kernel) (by decide +kernel)
theorem wm_1059 : (Jvm.Cond.code ({ cls := "SheGoesOut", name := "status", desc := "(I)I" } : Jvm.MethodName) prog_1_method_39_code (2 : Nat) (Option.some Jvm.ClassFile.FieldType.int)) ∈ gw := gw_at 1059 (by decide +kernel) (by decide +kernel)
theorem cv_RL_172 : gcv RL 172 yX11_status cX11_status 2 (some .int) 1 11 := ⟨⟨wm_1056, wm_1057, wm_1058, wm_47, wm_1059⟩, ⟨by decide, by decide, by decide +kernel⟩, ⟨_, rfl, rfl⟩⟩
theorem wm_1276 : (Jvm.Cond.methodLink "SheGoesOutLaw" (175 : Nat) ({ cls := "SheGoesOutModel", name := "status", desc := "(I)I" } : Jvm.MethodName)) ∈ gw := gw_at 1276 (by decide +kernel) (by decide +kernel)
theorem wm_1277 : (Jvm.Cond.instanceMethod ({ cls := "SheGoesOutModel", name := "status", desc := "(I)I" } : Jvm.MethodName)) ∈ gw := gw_at 1277 (by decide +kernel) (by decide +kernel)
theorem wm_1278 : (Jvm.Cond.selects "SheGoesOutModel" ({ cls := "SheGoesOutModel", name := "status", desc := "(I)I" } : Jvm.MethodName) ({ cls := "SheGoesOutModel", name := "status", desc := "(I)I" } : Jvm.MethodName)) ∈ gw := gw_at 1278 (by decide +kernel) (by decide +kernel)
theorem wm_1279 : (Jvm.Cond.code ({ cls := "SheGoesOutModel", name := "status", desc := "(I)I" } : Jvm.MethodName) prog_14_method_6_code (2 : Nat) (Option.some Jvm.ClassFile.FieldType.int)) ∈ gw := gw_at 1279 (by decide +kernel) (by decide +kernel)
theorem cv_RL_175 : gcv RL 175 yX12_status cX12_status 2 (some .int) 1 12 := ⟨⟨wm_1276, wm_1277, wm_1278, wm_59, wm_1279⟩, ⟨by decide, by decide, by decide +kernel⟩, ⟨_, rfl, rfl⟩⟩
theorem wm_1060 : (Jvm.Cond.methodLink "SheGoesOutLaw" (176 : Nat) ({ cls := "SheGoesOut", name := "finds", desc := "(IIII)I" } : Jvm.MethodName)) ∈ gw := gw_at 1060 (by decide +kernel) (by decide +kernel)
theorem wm_1061 : (Jvm.Cond.instanceMethod ({ cls := "SheGoesOut", name := "finds", desc := "(IIII)I" } : Jvm.MethodName)) ∈ gw := gw_at 1061 (by decide +kernel) (by decide +kernel)
theorem wm_1062 : (Jvm.Cond.selects "SheGoesOut" ({ cls := "SheGoesOut", name := "finds", desc := "(IIII)I" } : Jvm.MethodName) ({ cls := "SheGoesOut", name := "finds", desc := "(IIII)I" } : Jvm.MethodName)) ∈ gw := gw_at 1062 (by decide +kernel) (by decide +kernel)
theorem wm_1063 : (Jvm.Cond.code ({ cls := "SheGoesOut", name := "finds", desc := "(IIII)I" } : Jvm.MethodName) prog_1_method_40_code (8 : Nat) (Option.some Jvm.ClassFile.FieldType.int)) ∈ gw := gw_at 1063 (by decide +kernel) (by decide +kernel)
theorem cv_RL_176 : gcv RL 176 yX11_finds cX11_finds 8 (some .int) 4 11 := ⟨⟨wm_1060, wm_1061, wm_1062, wm_47, wm_1063⟩, ⟨by decide, by decide, by decide +kernel⟩, ⟨_, rfl, rfl⟩⟩
theorem wm_1592 : (Jvm.Cond.methodLink "SheGoesOutLaw" (180 : Nat) ({ cls := "SheGoesOutModel", name := "finds", desc := "(IIII)I" } : Jvm.MethodName)) ∈ gw := gw_at 1592 (by decide +kernel) (by decide +kernel)
theorem wm_1593 : (Jvm.Cond.instanceMethod ({ cls := "SheGoesOutModel", name := "finds", desc := "(IIII)I" } : Jvm.MethodName)) ∈ gw := gw_at 1593 (by decide +kernel) (by decide +kernel)
theorem wm_1594 : (Jvm.Cond.selects "SheGoesOutModel" ({ cls := "SheGoesOutModel", name := "finds", desc := "(IIII)I" } : Jvm.MethodName) ({ cls := "SheGoesOutModel", name := "finds", desc := "(IIII)I" } : Jvm.MethodName)) ∈ gw := gw_at 1594 (by decide +kernel) (by decide +kernel)
theorem wm_1595 : (Jvm.Cond.code ({ cls := "SheGoesOutModel", name := "finds", desc := "(IIII)I" } : Jvm.MethodName) prog_14_method_81_code (8 : Nat) (Option.some Jvm.ClassFile.FieldType.int)) ∈ gw := gw_at 1595 (by decide +kernel) (by decide +kernel)
theorem cv_RL_180 : gcv RL 180 yX12_finds cX12_finds 8 (some .int) 4 12 := ⟨⟨wm_1592, wm_1593, wm_1594, wm_59, wm_1595⟩, ⟨by decide, by decide, by decide +kernel⟩, ⟨_, rfl, rfl⟩⟩
theorem wm_1091 : (Jvm.Cond.methodLink "SheGoesOutLaw" (181 : Nat) ({ cls := "SheGoesOut", name := "film", desc := "(IIII)I" } : Jvm.MethodName)) ∈ gw := gw_at 1091 (by decide +kernel) (by decide +kernel)
theorem wm_1092 : (Jvm.Cond.instanceMethod ({ cls := "SheGoesOut", name := "film", desc := "(IIII)I" } : Jvm.MethodName)) ∈ gw := gw_at 1092 (by decide +kernel) (by decide +kernel)
theorem wm_1093 : (Jvm.Cond.selects "SheGoesOut" ({ cls := "SheGoesOut", name := "film", desc := "(IIII)I" } : Jvm.MethodName) ({ cls := "SheGoesOut", name := "film", desc := "(IIII)I" } : Jvm.MethodName)) ∈ gw := gw_at 1093 (by decide +kernel) (by decide +kernel)
theorem wm_1094 : (Jvm.Cond.code ({ cls := "SheGoesOut", name := "film", desc := "(IIII)I" } : Jvm.MethodName) prog_1_method_41_code (9 : Nat) (Option.some Jvm.ClassFile.FieldType.int)) ∈ gw := gw_at 1094 (by decide +kernel) (by decide +kernel)
theorem cv_RL_181 : gcv RL 181 yX11_film cX11_film 9 (some .int) 4 11 := ⟨⟨wm_1091, wm_1092, wm_1093, wm_47, wm_1094⟩, ⟨by decide, by decide, by decide +kernel⟩, ⟨_, rfl, rfl⟩⟩
theorem wm_1606 : (Jvm.Cond.methodLink "SheGoesOutLaw" (184 : Nat) ({ cls := "SheGoesOutModel", name := "film", desc := "(IIII)I" } : Jvm.MethodName)) ∈ gw := gw_at 1606 (by decide +kernel) (by decide +kernel)
theorem wm_1607 : (Jvm.Cond.instanceMethod ({ cls := "SheGoesOutModel", name := "film", desc := "(IIII)I" } : Jvm.MethodName)) ∈ gw := gw_at 1607 (by decide +kernel) (by decide +kernel)
theorem wm_1608 : (Jvm.Cond.selects "SheGoesOutModel" ({ cls := "SheGoesOutModel", name := "film", desc := "(IIII)I" } : Jvm.MethodName) ({ cls := "SheGoesOutModel", name := "film", desc := "(IIII)I" } : Jvm.MethodName)) ∈ gw := gw_at 1608 (by decide +kernel) (by decide +kernel)
theorem wm_1609 : (Jvm.Cond.code ({ cls := "SheGoesOutModel", name := "film", desc := "(IIII)I" } : Jvm.MethodName) prog_14_method_83_code (9 : Nat) (Option.some Jvm.ClassFile.FieldType.int)) ∈ gw := gw_at 1609 (by decide +kernel) (by decide +kernel)
theorem cv_RL_184 : gcv RL 184 yX12_film cX12_film 9 (some .int) 4 12 := ⟨⟨wm_1606, wm_1607, wm_1608, wm_59, wm_1609⟩, ⟨by decide, by decide, by decide +kernel⟩, ⟨_, rfl, rfl⟩⟩
theorem wm_1102 : (Jvm.Cond.methodLink "SheGoesOutLaw" (185 : Nat) ({ cls := "SheGoesOut", name := "sheet", desc := "(III)I" } : Jvm.MethodName)) ∈ gw := gw_at 1102 (by decide +kernel) (by decide +kernel)
theorem wm_1103 : (Jvm.Cond.instanceMethod ({ cls := "SheGoesOut", name := "sheet", desc := "(III)I" } : Jvm.MethodName)) ∈ gw := gw_at 1103 (by decide +kernel) (by decide +kernel)
theorem wm_1104 : (Jvm.Cond.selects "SheGoesOut" ({ cls := "SheGoesOut", name := "sheet", desc := "(III)I" } : Jvm.MethodName) ({ cls := "SheGoesOut", name := "sheet", desc := "(III)I" } : Jvm.MethodName)) ∈ gw := gw_at 1104 (by decide +kernel) (by decide +kernel)
theorem wm_1105 : (Jvm.Cond.code ({ cls := "SheGoesOut", name := "sheet", desc := "(III)I" } : Jvm.MethodName) prog_1_method_42_code (4 : Nat) (Option.some Jvm.ClassFile.FieldType.int)) ∈ gw := gw_at 1105 (by decide +kernel) (by decide +kernel)
theorem cv_RL_185 : gcv RL 185 yX11_sheet cX11_sheet 4 (some .int) 3 11 := ⟨⟨wm_1102, wm_1103, wm_1104, wm_47, wm_1105⟩, ⟨by decide, by decide, by decide +kernel⟩, ⟨_, rfl, rfl⟩⟩
theorem wm_1614 : (Jvm.Cond.methodLink "SheGoesOutLaw" (188 : Nat) ({ cls := "SheGoesOutModel", name := "sheet", desc := "(III)I" } : Jvm.MethodName)) ∈ gw := gw_at 1614 (by decide +kernel) (by decide +kernel)
theorem wm_1615 : (Jvm.Cond.instanceMethod ({ cls := "SheGoesOutModel", name := "sheet", desc := "(III)I" } : Jvm.MethodName)) ∈ gw := gw_at 1615 (by decide +kernel) (by decide +kernel)
theorem wm_1616 : (Jvm.Cond.selects "SheGoesOutModel" ({ cls := "SheGoesOutModel", name := "sheet", desc := "(III)I" } : Jvm.MethodName) ({ cls := "SheGoesOutModel", name := "sheet", desc := "(III)I" } : Jvm.MethodName)) ∈ gw := gw_at 1616 (by decide +kernel) (by decide +kernel)
theorem wm_1617 : (Jvm.Cond.code ({ cls := "SheGoesOutModel", name := "sheet", desc := "(III)I" } : Jvm.MethodName) prog_14_method_84_code (5 : Nat) (Option.some Jvm.ClassFile.FieldType.int)) ∈ gw := gw_at 1617 (by decide +kernel) (by decide +kernel)
theorem cv_RL_188 : gcv RL 188 yX12_sheet cX12_sheet 5 (some .int) 3 12 := ⟨⟨wm_1614, wm_1615, wm_1616, wm_59, wm_1617⟩, ⟨by decide, by decide, by decide +kernel⟩, ⟨_, rfl, rfl⟩⟩
theorem wm_1116 : (Jvm.Cond.methodLink "SheGoesOutLaw" (189 : Nat) ({ cls := "SheGoesOut", name := "drop", desc := "(I)I" } : Jvm.MethodName)) ∈ gw := gw_at 1116 (by decide +kernel) (by decide +kernel)
theorem wm_1117 : (Jvm.Cond.instanceMethod ({ cls := "SheGoesOut", name := "drop", desc := "(I)I" } : Jvm.MethodName)) ∈ gw := gw_at 1117 (by decide +kernel) (by decide +kernel)
theorem wm_1118 : (Jvm.Cond.selects "SheGoesOut" ({ cls := "SheGoesOut", name := "drop", desc := "(I)I" } : Jvm.MethodName) ({ cls := "SheGoesOut", name := "drop", desc := "(I)I" } : Jvm.MethodName)) ∈ gw := gw_at 1118 (by decide +kernel) (by decide +kernel)
theorem wm_1119 : (Jvm.Cond.code ({ cls := "SheGoesOut", name := "drop", desc := "(I)I" } : Jvm.MethodName) prog_1_method_43_code (2 : Nat) (Option.some Jvm.ClassFile.FieldType.int)) ∈ gw := gw_at 1119 (by decide +kernel) (by decide +kernel)
theorem cv_RL_189 : gcv RL 189 yX11_drop cX11_drop 2 (some .int) 1 11 := ⟨⟨wm_1116, wm_1117, wm_1118, wm_47, wm_1119⟩, ⟨by decide, by decide, by decide +kernel⟩, ⟨_, rfl, rfl⟩⟩
theorem wm_1618 : (Jvm.Cond.methodLink "SheGoesOutLaw" (192 : Nat) ({ cls := "SheGoesOutModel", name := "drop", desc := "(I)I" } : Jvm.MethodName)) ∈ gw := gw_at 1618 (by decide +kernel) (by decide +kernel)
theorem wm_1619 : (Jvm.Cond.instanceMethod ({ cls := "SheGoesOutModel", name := "drop", desc := "(I)I" } : Jvm.MethodName)) ∈ gw := gw_at 1619 (by decide +kernel) (by decide +kernel)
theorem wm_1620 : (Jvm.Cond.selects "SheGoesOutModel" ({ cls := "SheGoesOutModel", name := "drop", desc := "(I)I" } : Jvm.MethodName) ({ cls := "SheGoesOutModel", name := "drop", desc := "(I)I" } : Jvm.MethodName)) ∈ gw := gw_at 1620 (by decide +kernel) (by decide +kernel)
theorem wm_1621 : (Jvm.Cond.code ({ cls := "SheGoesOutModel", name := "drop", desc := "(I)I" } : Jvm.MethodName) prog_14_method_85_code (2 : Nat) (Option.some Jvm.ClassFile.FieldType.int)) ∈ gw := gw_at 1621 (by decide +kernel) (by decide +kernel)
theorem cv_RL_192 : gcv RL 192 yX12_drop cX12_drop 2 (some .int) 1 12 := ⟨⟨wm_1618, wm_1619, wm_1620, wm_59, wm_1621⟩, ⟨by decide, by decide, by decide +kernel⟩, ⟨_, rfl, rfl⟩⟩
theorem wm_1125 : (Jvm.Cond.methodLink "SheGoesOutLaw" (193 : Nat) ({ cls := "SheGoesOut", name := "item", desc := "(IIIJ)I" } : Jvm.MethodName)) ∈ gw := gw_at 1125 (by decide +kernel) (by decide +kernel)
theorem wm_1126 : (Jvm.Cond.instanceMethod ({ cls := "SheGoesOut", name := "item", desc := "(IIIJ)I" } : Jvm.MethodName)) ∈ gw := gw_at 1126 (by decide +kernel) (by decide +kernel)
theorem wm_1127 : (Jvm.Cond.selects "SheGoesOut" ({ cls := "SheGoesOut", name := "item", desc := "(IIIJ)I" } : Jvm.MethodName) ({ cls := "SheGoesOut", name := "item", desc := "(IIIJ)I" } : Jvm.MethodName)) ∈ gw := gw_at 1127 (by decide +kernel) (by decide +kernel)
theorem wm_1128 : (Jvm.Cond.code ({ cls := "SheGoesOut", name := "item", desc := "(IIIJ)I" } : Jvm.MethodName) prog_1_method_44_code (7 : Nat) (Option.some Jvm.ClassFile.FieldType.int)) ∈ gw := gw_at 1128 (by decide +kernel) (by decide +kernel)
theorem cv_RL_193 : gcv RL 193 yX11_item cX11_item 7 (some .int) 4 11 := ⟨⟨wm_1125, wm_1126, wm_1127, wm_47, wm_1128⟩, ⟨by decide, by decide, by decide +kernel⟩, ⟨_, rfl, rfl⟩⟩
theorem wm_1622 : (Jvm.Cond.methodLink "SheGoesOutLaw" (197 : Nat) ({ cls := "SheGoesOutModel", name := "item", desc := "(IIIJ)I" } : Jvm.MethodName)) ∈ gw := gw_at 1622 (by decide +kernel) (by decide +kernel)
theorem wm_1623 : (Jvm.Cond.instanceMethod ({ cls := "SheGoesOutModel", name := "item", desc := "(IIIJ)I" } : Jvm.MethodName)) ∈ gw := gw_at 1623 (by decide +kernel) (by decide +kernel)
theorem wm_1624 : (Jvm.Cond.selects "SheGoesOutModel" ({ cls := "SheGoesOutModel", name := "item", desc := "(IIIJ)I" } : Jvm.MethodName) ({ cls := "SheGoesOutModel", name := "item", desc := "(IIIJ)I" } : Jvm.MethodName)) ∈ gw := gw_at 1624 (by decide +kernel) (by decide +kernel)
theorem wm_1625 : (Jvm.Cond.code ({ cls := "SheGoesOutModel", name := "item", desc := "(IIIJ)I" } : Jvm.MethodName) prog_14_method_86_code (7 : Nat) (Option.some Jvm.ClassFile.FieldType.int)) ∈ gw := gw_at 1625 (by decide +kernel) (by decide +kernel)
theorem cv_RL_197 : gcv RL 197 yX12_item cX12_item 7 (some .int) 4 12 := ⟨⟨wm_1622, wm_1623, wm_1624, wm_59, wm_1625⟩, ⟨by decide, by decide, by decide +kernel⟩, ⟨_, rfl, rfl⟩⟩
theorem wm_1129 : (Jvm.Cond.methodLink "SheGoesOutLaw" (198 : Nat) ({ cls := "SheGoesOut", name := "copy", desc := "(IIIII)I" } : Jvm.MethodName)) ∈ gw := gw_at 1129 (by decide +kernel) (by decide +kernel)
theorem wm_1130 : (Jvm.Cond.instanceMethod ({ cls := "SheGoesOut", name := "copy", desc := "(IIIII)I" } : Jvm.MethodName)) ∈ gw := gw_at 1130 (by decide +kernel) (by decide +kernel)
theorem wm_1131 : (Jvm.Cond.selects "SheGoesOut" ({ cls := "SheGoesOut", name := "copy", desc := "(IIIII)I" } : Jvm.MethodName) ({ cls := "SheGoesOut", name := "copy", desc := "(IIIII)I" } : Jvm.MethodName)) ∈ gw := gw_at 1131 (by decide +kernel) (by decide +kernel)
theorem wm_1132 : (Jvm.Cond.code ({ cls := "SheGoesOut", name := "copy", desc := "(IIIII)I" } : Jvm.MethodName) prog_1_method_45_code (6 : Nat) (Option.some Jvm.ClassFile.FieldType.int)) ∈ gw := gw_at 1132 (by decide +kernel) (by decide +kernel)
theorem cv_RL_198 : gcv RL 198 yX11_copy cX11_copy 6 (some .int) 5 11 := ⟨⟨wm_1129, wm_1130, wm_1131, wm_47, wm_1132⟩, ⟨by decide, by decide, by decide +kernel⟩, ⟨_, rfl, rfl⟩⟩
theorem wm_1626 : (Jvm.Cond.methodLink "SheGoesOutLaw" (202 : Nat) ({ cls := "SheGoesOutModel", name := "copy", desc := "(IIIII)I" } : Jvm.MethodName)) ∈ gw := gw_at 1626 (by decide +kernel) (by decide +kernel)
theorem wm_1627 : (Jvm.Cond.instanceMethod ({ cls := "SheGoesOutModel", name := "copy", desc := "(IIIII)I" } : Jvm.MethodName)) ∈ gw := gw_at 1627 (by decide +kernel) (by decide +kernel)
theorem wm_1628 : (Jvm.Cond.selects "SheGoesOutModel" ({ cls := "SheGoesOutModel", name := "copy", desc := "(IIIII)I" } : Jvm.MethodName) ({ cls := "SheGoesOutModel", name := "copy", desc := "(IIIII)I" } : Jvm.MethodName)) ∈ gw := gw_at 1628 (by decide +kernel) (by decide +kernel)
theorem wm_1629 : (Jvm.Cond.code ({ cls := "SheGoesOutModel", name := "copy", desc := "(IIIII)I" } : Jvm.MethodName) prog_14_method_87_code (7 : Nat) (Option.some Jvm.ClassFile.FieldType.int)) ∈ gw := gw_at 1629 (by decide +kernel) (by decide +kernel)
theorem cv_RL_202 : gcv RL 202 yX12_copy cX12_copy 7 (some .int) 5 12 := ⟨⟨wm_1626, wm_1627, wm_1628, wm_59, wm_1629⟩, ⟨by decide, by decide, by decide +kernel⟩, ⟨_, rfl, rfl⟩⟩
theorem ki_6 : Int32.ofInt (6) = (6 : Int32) := by decide
def R_law : String := "SheGoesOutLaw"
def lw_P (b : Addr) (xs : List Int32) (args : Array Value) (s : State) : Prop := args = #[.ref b] ∧ s.IntsAt b xs ∧ xs.length ≤ 384 ∧ (Jvm.Cond.and given_1 narrow_1).before args s = true
def lw_Q (_ : Array Value) (s : State) (o : Outcome) (t : State) : Prop := o = .returned (some (.int 1)) ∧ Framed s o t [] 600000 7302250
def lw_Z (below : List Frame) (a : Array Value) (s : State) : State → Prop := fun t => ∃ o, t.status = .running ∧ Ended t below o ∧ lw_Q a s o t
/-- the law's own end, with 1 on the stack, nothing written that was there before, its room as the claim has it -/
theorem lw_ret {p : Program} {l : Launch} {e : Env} {s : State} {m : MethodId} {below : List Frame} {meth : Method} {c : Code} {b : Nat} (hx : p.tables.exec = Jvm.exec) (hb : c.code = code) (hr : meth.sig.returnType = ret) (hlocks : meth.locks = false) {pc : Nat} {H : Heap} {ls : Array Slot} (hdg : decode code pc = .ok (.ireturn, 1)) : W p l e room_1 s m #[Value.ref b] below meth c H [] 600000 7302250 (lw_Z below #[Value.ref b] s) (F0 m pc ls [.int 1]) := by
  intro T hT X
  obtain ⟨fs, hret, hrun, hended, hW, hframe⟩ := X.leave (v := some (.int 1)) (hlocks := hlocks) (fun h => by rw [hr] at h; cases h)
  have hmeth' : T.vm.method? m = some meth := X.method'
  refine ⟨T.setFrames fs, ?_, .returned (some (.int 1)), hrun, hended, rfl, ⟨_, rfl⟩, hW, hframe⟩
  jvm_step X.here [X.here.top, hx, hb, hdg, hmeth', hr, ret, narrow_b1]
  (try refine ⟨rfl, ?_⟩); (try refine ⟨rfl, ?_⟩)
  first | (intro acts; rw [hret _ acts rfl rfl rfl]) | rw [hret _ _ rfl rfl rfl]
  exact Steps.refl _
/-- what holds at the law's entry: the machine, the code, the tables' words (any of lw_tbl by 'hts w (by decide +kernel)'), the script of L ints xs at the cell b, what the Statement gives of the start (any of its parts by flat_of_before) -/
def lw_At (p : Program) (s : State) (m : MethodId) (meth : Method) (c : Code) (b L : Nat) (xs : Nat → Int32) : Prop :=
  p.tables.exec = Jvm.exec ∧ c.code = code ∧ meth.sig.returnType = ret ∧ c.maxLocals = 4 ∧ s.vm.findClass R_law = some m.cls ∧ (∀ w ∈ lw_tbl, w.before #[Value.ref b] s = true) ∧ va_X b L xs s s.heap ∧ b < s.heap.size ∧ meth.locks = false ∧ (Jvm.Cond.and given_1 narrow_1).before #[Value.ref b] s = true
def lwA (N : Nat) (ad : Nat → Nat) : Nat → Prop := fun q => ∃ i, i < N ∧ q = ad i
theorem lw_add6 (n : Nat) : nI (6 * n) + 6 = nI (6 * (n + 1)) := by
  rw [show (6 : Int32) = nI 6 from rfl, nI_add, show 6 * n + 6 = 6 * (n + 1) by omega]
theorem lw_le {n L : Nat} (hn : 6 * n < 2 ^ 31) (hL : L < 2 ^ 30) (h : ¬ Int32.ofNat L - (6 : Int32) < nI (6 * n)) : 6 * n + 6 ≤ L := by
  have e : Int32.ofNat L - (6 : Int32) = nI L - nI 6 := rfl
  rw [e, Int32.lt_iff_toInt_lt, pk_sub_toInt (by omega) (by omega), nI_toInt hn] at h
  omega
theorem lw_in {n L : Nat} (q : Nat) (h : 6 * n + 6 ≤ L) (hq : q < 6) (hL : L < 2 ^ 31) : vp_in (nI (6 * n) + nI q) L := by
  rw [nI_add]
  exact vp_in_nI (by omega) hL
section LW
variable {p : Program} {l : Launch} {e : Env} {R : Room} {s : State} {m : MethodId} {args : Array Value} {below : List Frame} {meth : Method} {c : Code} {H : Heap} {Q : State → Prop}
variable {cc : ByteArray} {nL pc k0 n0 : Nat} {ls : Array Slot} {rest : List Value} {own : String} {Sh Sh2 : List gSh} {D : va_G} {cy : Nat → ClassId} {ad ad2 sa : Nat → Nat} {N N2 : Nat} {σ σ' τ : St}
variable {y : MethodName} {b : ByteArray} {n d idx : Nat} {rt : Option FieldType} {as : List Value}
theorem lw_runV (X : gX p s m args c cc nL own) (F : gF Sh D cy ad sa (lwA N ad) s) (P : va_P D vwCl (gWl Sh cy ad σ) H) (hz : s.heap.size ≤ H.size) (hfr : ∀ q : Nat, q < s.heap.size → H[q]? = s.heap[q]?) {Qc : Array Value → State → Outcome → State → Prop} {cN ci : Nat} {fl : List Nat} (hM : Met l y (Cond.code y b n rt :: gw) (grm d) (va_Pc (.ref (ad cN) :: as) (gP Sh D cy ad sa (lwA N ad) σ)) Qc 0 0 (lwA N ad)) (hl : gcv own idx y b n rt as.length ci) (hc : Sh[cN]? = some (.inl (ci, fl))) (hR : d + 1 ≤ R.frames ∧ 8 + (n + 11) + 40 * d ≤ R.locals) {st0 : List Value} (hst : st0 = as.reverse ++ .ref (ad cN) :: rest) (hsz : ls.size = nL) (hrm : (rest.map fun v => v.category).sum ≤ 8) (hdg : decode cc pc = .ok (.invokevirtual idx, 3)) (hk : k0 ≤ R.cells ∧ n0 ≤ R.slots) : va_Run p l e R s m args below meth c H [] k0 n0 0 0 (F0 m pc ls st0) rest (Qc (Value.ref (ad cN) :: as).toArray) (lwA N ad) := by
  have Y : gY Sh D cy ad (lwA N ad) σ s H [] := ⟨P, hz, fun q h _ => hfr q h, fun _ h => by cases h⟩
  obtain ⟨⟨h1, h2, h8, h3, h4⟩, ⟨h5, h6, h7⟩, q, h9, h10⟩ := hl
  have hG : GoodIn gw (wsV own idx y.cls y (Cond.code y b n rt :: gw)) := gw_goodIn (fun w hw => by
    unfold wsV at hw
    simp only [List.mem_append, List.mem_cons, List.not_mem_nil, or_false] at hw
    rcases hw with (rfl | rfl | rfl | rfl) | rfl | hw
    · exact h1
    · exact h2
    · exact h8
    · exact h3
    · exact h4
    · exact hw)
  refine va_runV (nL := nL) (C := y.cls) ⟨X.1, X.2.1, X.2.2.1, X.2.2.2.1, X.2.2.2.2⟩ hM (cwV as.length X.2.2.2.2 hG rfl rfl rfl ⟨rfl, h5, h6, h7⟩ hR) ⟨gP.blind, ?_, fun U hU hW => ⟨rfl, gP.of F Y hU hW⟩⟩ rfl rfl hsz hst (lv_room hrm) hdg hk
  rw [← h10]
  exact va_recv F.1 Y.1 h9 (gWl_get hc)
theorem lw_keep {H1 : Heap} {A : Nat → Prop} (P2 : va_P D vwCl (gWl Sh2 cy ad2 τ) H) (hN : Sh2.length = N2) (hap : ∀ i, i < N2 → ¬ A (ad2 i)) (hk : ∀ q : Nat, q < H.size → ¬ A q → H1[q]? = H[q]?) : va_P D vwCl (gWl Sh2 cy ad2 τ) H1 := by
  refine P2.kept (fun k q hq => ?_)
  have hl := (P2 k q hq).lt
  have hkl : k < Sh2.length := by have := (List.getElem?_eq_some_iff.mp hq).1; rwa [gWl_len] at this
  obtain ⟨sh, hsh⟩ : ∃ sh, Sh2[k]? = some sh := ⟨_, List.getElem?_eq_getElem hkl⟩
  have e := gWl_get (cy := cy) (ad := ad2) (σ := τ) hsh
  rw [e] at hq
  cases hq
  exact hk _ hl (hap k (by omega))
theorem lw_backi {st0 : List Value} {a : Array Value} {r : Int32} (hr : va_Run p l e R s m args below meth c H [] k0 n0 0 0 (F0 m pc ls st0) rest ((va_Qi (fun (q : Int32) (_ : Unit) => q = r) (fun _ t => va_P D vwCl (gWl Sh cy ad σ') t.heap) (lwA N ad)) a) (lwA N ad)) (hnew : ∀ q, lwA N ad q → s.heap.size ≤ q) (P2 : va_P D vwCl (gWl Sh2 cy ad2 τ) H) (hN : Sh2.length = N2) (hap : ∀ i, i < N2 → ¬ lwA N ad (ad2 i)) (hz : s.heap.size ≤ H.size) (hfr : ∀ q : Nat, q < s.heap.size → H[q]? = s.heap[q]?)
    (kk : ∀ (H : Heap), va_P D vwCl (gWl Sh cy ad σ') H → va_P D vwCl (gWl Sh2 cy ad2 τ) H → s.heap.size ≤ H.size → (∀ q : Nat, q < s.heap.size → H[q]? = s.heap[q]?) → W p l e R s m args below meth c H [] k0 n0 Q (F0 m (pc + 3) ls (.int r :: rest))) : W p l e R s m args below meth c H [] k0 n0 Q (F0 m pc ls st0) :=
  va_calli (A0 := fun q => s.heap.size ≤ q) (H0 := s.heap) hr ⟨hz, fun q h _ => hfr q h, fun _ h => by cases h⟩ (fun q _ h => hnew q h) hnew (fun r1 u t H1 locs1 ht _ hp hB _ hk hS => by
    subst hp
    rw [ht] at hB
    exact va_forget (fun q h => hS.2.2 q h) (kk H1 hB (lw_keep P2 hN hap hk) hS.1 (fun q h => hS.2.1 q h (Nat.not_le.mpr h))))
theorem lw_backl {st0 : List Value} {a : Array Value} {r : Int64} (hr : va_Run p l e R s m args below meth c H [] k0 n0 0 0 (F0 m pc ls st0) rest ((va_Ql (fun (q : Int64) (_ : Unit) => q = r) (fun _ t => va_P D vwCl (gWl Sh cy ad σ') t.heap) (lwA N ad)) a) (lwA N ad)) (hnew : ∀ q, lwA N ad q → s.heap.size ≤ q) (P2 : va_P D vwCl (gWl Sh2 cy ad2 τ) H) (hN : Sh2.length = N2) (hap : ∀ i, i < N2 → ¬ lwA N ad (ad2 i)) (hz : s.heap.size ≤ H.size) (hfr : ∀ q : Nat, q < s.heap.size → H[q]? = s.heap[q]?)
    (kk : ∀ (H : Heap), va_P D vwCl (gWl Sh cy ad σ') H → va_P D vwCl (gWl Sh2 cy ad2 τ) H → s.heap.size ≤ H.size → (∀ q : Nat, q < s.heap.size → H[q]? = s.heap[q]?) → W p l e R s m args below meth c H [] k0 n0 Q (F0 m (pc + 3) ls (.long r :: rest))) : W p l e R s m args below meth c H [] k0 n0 Q (F0 m pc ls st0) :=
  va_calll (A0 := fun q => s.heap.size ≤ q) (H0 := s.heap) hr ⟨hz, fun q h _ => hfr q h, fun _ h => by cases h⟩ (fun q _ h => hnew q h) hnew (fun r1 u t H1 locs1 ht _ hp hB _ hk hS => by
    subst hp
    rw [ht] at hB
    exact va_forget (fun q h => hS.2.2 q h) (kk H1 hB (lw_keep P2 hN hap hk) hS.1 (fun q h => hS.2.1 q h (Nat.not_le.mpr h))))
end LW
theorem gWl_at {Sh : List gSh} {cy : Nat → ClassId} {ad : Nat → Nat} {σ : St} {i : Nat} (hi : i < Sh.length) : ∃ e, (gWl Sh cy ad σ)[i]? = some (ad i, e) := ⟨_, gWl_get (List.getElem?_eq_getElem hi)⟩
theorem gWl_inj {Sh : List gSh} {cy : Nat → ClassId} {ad : Nat → Nat} {σ : St} {A : Nat → Prop} (h : va_D A (gWl Sh cy ad σ)) {i j : Nat} (hi : i < Sh.length) (hj : j < Sh.length) (he : ad i = ad j) : i = j := by
  obtain ⟨e1, h1⟩ := gWl_at (cy := cy) (ad := ad) (σ := σ) hi
  obtain ⟨e2, h2⟩ := gWl_at (cy := cy) (ad := ad) (σ := σ) hj
  exact h.1 i j _ _ h1 h2 he
theorem gWl_A {Sh : List gSh} {cy : Nat → ClassId} {ad : Nat → Nat} {σ : St} {A : Nat → Prop} {N : Nat} (h : va_D A (gWl Sh cy ad σ)) (hN : Sh.length = N) : ∀ q, lwA N ad q → A q := by
  rintro q ⟨i, hi, rfl⟩
  obtain ⟨e1, h1⟩ := gWl_at (cy := cy) (ad := ad) (σ := σ) (show i < Sh.length by omega)
  exact h.2 i _ h1
theorem gWl_D {Sh : List gSh} {cy : Nat → ClassId} {ad : Nat → Nat} {σ : St} {A : Nat → Prop} {N : Nat} (h : va_D A (gWl Sh cy ad σ)) (hN : Sh.length = N) : ∀ τ : St, va_D (lwA N ad) (gWl Sh cy ad τ) := by
  intro τ
  have key : ∀ (k : Nat) (q : Nat × va_E), (gWl Sh cy ad τ)[k]? = some q → k < Sh.length ∧ q.1 = ad k := by
    intro k q hq
    have hl : k < Sh.length := by have := (List.getElem?_eq_some_iff.mp hq).1; rwa [gWl_len] at this
    obtain ⟨e1, h1⟩ := gWl_at (cy := cy) (ad := ad) (σ := τ) hl
    rw [h1] at hq
    cases hq
    exact ⟨hl, rfl⟩
  refine ⟨fun i j x y hi hj hxy => ?_, fun k q hq => ?_⟩
  · obtain ⟨a1, a2⟩ := key i x hi
    obtain ⟨b1, b2⟩ := key j y hj
    exact gWl_inj h a1 b1 (by rw [← a2, ← b2]; exact hxy)
  · obtain ⟨a1, a2⟩ := key k q hq
    exact ⟨k, by omega, a2⟩
theorem gWl_ap {Sh Sh2 : List gSh} {cy : Nat → ClassId} {ad ad2 : Nat → Nat} {σ τ : St} {A : Nat → Prop} (h : va_D A (gWl Sh cy ad σ ++ gWl Sh2 cy ad2 τ)) {i j : Nat} (hi : i < Sh.length) (hj : j < Sh2.length) : ad i ≠ ad2 j := by
  intro he
  obtain ⟨e1, h1⟩ := gWl_at (cy := cy) (ad := ad) (σ := σ) hi
  obtain ⟨e2, h2⟩ := gWl_at (cy := cy) (ad := ad2) (σ := τ) hj
  have g1 : (gWl Sh cy ad σ ++ gWl Sh2 cy ad2 τ)[i]? = some (ad i, e1) := by rw [List.getElem?_append_left (by rw [gWl_len]; exact hi)]; exact h1
  have g2 : (gWl Sh cy ad σ ++ gWl Sh2 cy ad2 τ)[Sh.length + j]? = some (ad2 j, e2) := by
    rw [List.getElem?_append_right (by rw [gWl_len]; omega), gWl_len, Nat.add_sub_cancel_left]; exact h2
  have := h.1 _ _ _ _ g1 g2 he
  omega
theorem gSF.narrow {sa : Nat → Nat} {A B : Nat → Prop} {U : State} {H : Heap} (h : gSF sa A U H) (hAB : ∀ q, B q → A q) : gSF sa B U H := by
  obtain ⟨⟨a1, a2⟩, ⟨b1, b2⟩, c1, ⟨d1, d2, d3, d4, d5⟩, ⟨e1, e2, e3, e4, e5⟩, f1⟩ := h
  exact ⟨⟨a1.narrow hAB, a2.narrow hAB⟩, ⟨b1.narrow hAB, b2.narrow hAB⟩, c1.narrow hAB, ⟨d1, d2.narrow hAB, d3.narrow hAB, d4.narrow hAB, d5.narrow hAB⟩, ⟨e1, e2.narrow hAB, e3.narrow hAB, e4.narrow hAB, e5.narrow hAB⟩, f1⟩
def Same {T : Type} (Rel : Nat → St → St → Prop) (n : Nat) (x y : Option (T × St)) : Prop := ∃ (r : T) (c m : St), x = some (r, c) ∧ y = some (r, m) ∧ Rel (n + 1) c m
/-- what is owed of the functions alone -/
def PureOK (F : Nat) (Rel : Nat → St → St → Prop) : Prop := Rel 0 σX11 σX12 ∧ ∀ (n : Nat) (c m : St), n < 64 → Rel n c m →
  (∀ (v0 : Int32) (v1 : Int32), Same Rel n (c_kind F v0 v1 c) (m_kind F v0 v1 m)) ∧
  (∀ (v0 : Int32) (v1 : Int32), Same Rel n (c_draw F v0 v1 c) (m_draw F v0 v1 m)) ∧
  (∀ (v0 : Int32) (v1 : Int32), Same Rel n (c_told F v0 v1 c) (m_told F v0 v1 m)) ∧
  (∀ (v0 : Int32) (v1 : Int32), Same Rel n (c_set F v0 v1 c) (m_set F v0 v1 m)) ∧
  (∀ (v0 : Int32) (v1 : Int32), Same Rel n (c_sits F v0 v1 c) (m_sits F v0 v1 m)) ∧
  (∀ (v0 : Int64) (v1 : Int32), Same Rel n (c_type F v0 v1 c) (m_type F v0 v1 m)) ∧
  (Same Rel n (c_land F c) (m_land F m)) ∧
  (Same Rel n (c_rules F c) (m_rules F m)) ∧
  (∀ (v0 : Int32) (v1 : Int32), Same Rel n (c_start F v0 v1 c) (m_start F v0 v1 m)) ∧
  (∀ (v0 : Int32), Same Rel n (c_night F v0 c) (m_night F v0 m)) ∧
  (∀ (v0 : Int32) (v1 : Int32), Same Rel n (c_parts F v0 v1 c) (m_parts F v0 v1 m)) ∧
  (∀ (v0 : Int32) (v1 : Int32), Same Rel n (c_odds F v0 v1 c) (m_odds F v0 v1 m)) ∧
  (∀ (v0 : Int32), Same Rel n (c_where F v0 c) (m_where F v0 m)) ∧
  (∀ (v0 : Int32), Same Rel n (c_count F v0 c) (m_count F v0 m)) ∧
  (∀ (v0 : Int32) (v1 : Int32) (v2 : Int32), Same Rel n (c_sees F v0 v1 v2 c) (m_sees F v0 v1 v2 m)) ∧
  (∀ (v0 : Int32) (v1 : Int32), Same Rel n (c_search F v0 v1 c) (m_search F v0 v1 m)) ∧
  (∀ (v0 : Int32), Same Rel n (c_alive F v0 c) (m_alive F v0 m)) ∧
  (∀ (v0 : Int32) (v1 : Int32) (v2 : Int32), Same Rel n (c_team F v0 v1 v2 c) (m_team F v0 v1 v2 m)) ∧
  (∀ (v0 : Int32), Same Rel n (c_place F v0 c) (m_place F v0 m)) ∧
  (∀ (v0 : Int32), Same Rel n (c_whom F v0 c) (m_whom F v0 m)) ∧
  (Same Rel n (c_bound F c) (m_bound F m)) ∧
  (∀ (v0 : Int32) (v1 : Int32), Same Rel n (c_again F v0 v1 c) (m_again F v0 v1 m)) ∧
  (∀ (v0 : Int32) (v1 : Int32) (v2 : Int32), Same Rel n (c_call F v0 v1 v2 c) (m_call F v0 v1 v2 m)) ∧
  (∀ (v0 : Int32) (v1 : Int32) (v2 : Int32) (v3 : Int32), Same Rel n (c_truly F v0 v1 v2 v3 c) (m_truly F v0 v1 v2 v3 m)) ∧
  (∀ (v0 : Int32) (v1 : Int32) (v2 : Int32), Same Rel n (c_job F v0 v1 v2 c) (m_job F v0 v1 v2 m)) ∧
  (∀ (v0 : Int32), Same Rel n (c_order F v0 c) (m_order F v0 m)) ∧
  (∀ (v0 : Int32) (v1 : Int32) (v2 : Int32), Same Rel n (c_found F v0 v1 v2 c) (m_found F v0 v1 v2 m)) ∧
  (∀ (v0 : Int32) (v1 : Int32), Same Rel n (c_share F v0 v1 c) (m_share F v0 v1 m)) ∧
  (∀ (v0 : Int32) (v1 : Int32), Same Rel n (c_span F v0 v1 c) (m_span F v0 v1 m)) ∧
  (Same Rel n (c_held F c) (m_held F m)) ∧
  (∀ (v0 : Int32) (v1 : Int32), Same Rel n (c_measure F v0 v1 c) (m_measure F v0 v1 m)) ∧
  (∀ (v0 : Int32) (v1 : Int32), Same Rel n (c_leaves F v0 v1 c) (m_leaves F v0 v1 m)) ∧
  (∀ (v0 : Int32) (v1 : Int32), Same Rel n (c_least F v0 v1 c) (m_least F v0 v1 m)) ∧
  (∀ (v0 : Int32) (v1 : Int32), Same Rel n (c_net F v0 v1 c) (m_net F v0 v1 m)) ∧
  (Same Rel n (c_clear F c) (m_clear F m)) ∧
  (Same Rel n (c_image F c) (m_image F m)) ∧
  (Same Rel n (c_restore F c) (m_restore F m)) ∧
  (∀ (v0 : Int32), Same Rel n (c_status F v0 c) (m_status F v0 m)) ∧
  (∀ (v0 : Int32) (v1 : Int32) (v2 : Int32) (v3 : Int32), Same Rel n (c_finds F v0 v1 v2 v3 c) (m_finds F v0 v1 v2 v3 m)) ∧
  (∀ (v0 : Int32) (v1 : Int32) (v2 : Int32) (v3 : Int32), Same Rel n (c_film F v0 v1 v2 v3 c) (m_film F v0 v1 v2 v3 m)) ∧
  (∀ (v0 : Int32) (v1 : Int32) (v2 : Int32), Same Rel n (c_sheet F v0 v1 v2 c) (m_sheet F v0 v1 v2 m)) ∧
  (∀ (v0 : Int32), Same Rel n (c_drop F v0 c) (m_drop F v0 m)) ∧
  (∀ (v0 : Int32) (v1 : Int32) (v2 : Int32) (v3 : Int64), Same Rel n (c_item F v0 v1 v2 v3 c) (m_item F v0 v1 v2 v3 m)) ∧
  (∀ (v0 : Int32) (v1 : Int32) (v2 : Int32) (v3 : Int32) (v4 : Int32), Same Rel n (c_copy F v0 v1 v2 v3 v4 c) (m_copy F v0 v1 v2 v3 v4 m))
set_option maxRecDepth 100000 in
set_option maxHeartbeats 16000000 in
theorem law_loop {F : Nat} {Rel : Nat → St → St → Prop} (HP : PureOK F Rel) (HP2 : ∀ (n : Nat) (c m : St), n < 64 → Rel n c m → Rel (n + 1) c m) {p : Program} {l : Launch} {e : Env} {s : State} {m : MethodId} {below : List Frame} {meth : Method} {c : Code} {b L : Nat} {xs : Nat → Int32} (hL : L ≤ 384) (hr : meth.sig.returnType = ret) (hlk : meth.locks = false) (X : gX p s m #[Value.ref b] c code 4 "SheGoesOutLaw") (hX : va_X b L xs s s.heap) (hbl : b < s.heap.size) {D : va_G} {cy : Nat → ClassId} {adC adM sa : Nat → Nat} (FC : gF shC D cy adC sa (lwA 81 adC) s) (FM : gF shM D cy adM sa (lwA 33 adM) s) (hapC : ∀ i, i < 33 → ¬ lwA 81 adC (adM i)) (hapM : ∀ i, i < 81 → ¬ lwA 33 adM (adC i)) (hnC : ∀ q, lwA 81 adC q → s.heap.size ≤ q) (hnM : ∀ q, lwA 33 adM q → s.heap.size ≤ q) :
    ∀ (k n : Nat) (x3 : Int32) (σ τ : St) (H : Heap) (ls : Array Slot), n + k = 64 → 6 * n ≤ L → x3 = nI (6 * n) → Rel n σ τ → va_P D vwCl (gWl shC cy adC σ) H → va_P D vwCl (gWl shM cy adM τ) H → s.heap.size ≤ H.size → (∀ q : Nat, q < s.heap.size → H[q]? = s.heap[q]?) → lv_has ls 4 [(0, .ref b), (1, .ref (adC 0)), (2, .ref (adM 0)), (3, .int x3)] → W p l e room_1 s m #[Value.ref b] below meth c H [] 600000 7302250 (lw_Z below #[Value.ref b] s) (F0 m 18 ls []) := by
  have hbA : ¬ (fun q : Nat => s.heap.size ≤ q) b := Nat.not_le.mpr hbl
  intro k
  induction k with
  | zero =>
    intro n x3 σ τ H ls hn hnL ex3 hR PC PM hz hfr hl
    have hn64 : n = 64 := by omega
    have hL2 : L = 384 := by omega
    have hSf : va_S (fun q : Nat => s.heap.size ≤ q) s.heap H [] := ⟨hz, fun q h _ => hfr q h, fun _ h => by cases h⟩
    refine lv_iload_n X.1 X.2.1 (dck_at da_L_law 10 rfl) rfl (lv_at hl 3 rfl) ?_
    refine lv_aload_n X.1 X.2.1 (dck_at da_L_law 11 rfl) rfl (lv_at hl 0 rfl) ?_
    refine va_slen X.1 X.2.1 hX hbl hbA hSf (dck_at da_L_law 12 rfl) ?_
    refine lv_bipush X.1 X.2.1 (dck_at da_L_law 13 rfl) kb_6 ?_
    refine lv_isub X.1 X.2.1 (dck_at da_L_law 14 rfl) ?_
    refine lv_icmp_gt (tgt := 1690) X.1 X.2.1 (dck_at da_L_law 15 rfl) rfl (fun c0 => ?_) (fun c0 => ?_)
    · refine lv_iconst X.1 X.2.1 (dck_at da_L_law_30 8 rfl) ki_1 ?_
      exact lw_ret X.1 X.2.1 hr hlk (dck_at da_L_law_30 9 rfl)
    · exact absurd c0 (by rw [ex3, hn64, hL2]; decide)
  | succ k ih =>
    intro n x3 σ τ H ls hn hnL ex3 hR PC PM hz hfr hl
    have hSf : va_S (fun q : Nat => s.heap.size ≤ q) s.heap H [] := ⟨hz, fun q h _ => hfr q h, fun _ h => by cases h⟩
    refine lv_iload_n X.1 X.2.1 (dck_at da_L_law 10 rfl) rfl (lv_at hl 3 rfl) ?_
    refine lv_aload_n X.1 X.2.1 (dck_at da_L_law 11 rfl) rfl (lv_at hl 0 rfl) ?_
    refine va_slen X.1 X.2.1 hX hbl hbA hSf (dck_at da_L_law 12 rfl) ?_
    refine lv_bipush X.1 X.2.1 (dck_at da_L_law 13 rfl) kb_6 ?_
    refine lv_isub X.1 X.2.1 (dck_at da_L_law 14 rfl) ?_
    refine lv_icmp_gt (tgt := 1690) X.1 X.2.1 (dck_at da_L_law 15 rfl) rfl (fun c0 => ?_) (fun c0 => ?_)
    · refine lv_iconst X.1 X.2.1 (dck_at da_L_law_30 8 rfl) ki_1 ?_
      exact lw_ret X.1 X.2.1 hr hlk (dck_at da_L_law_30 9 rfl)
    · have hlt : 6 * n + 6 ≤ L := lw_le (by omega) (by omega) (by rw [← ex3]; exact c0)
      have h0 : vp_in x3 L := by rw [ex3]; exact vp_in_nI (by omega) (by omega)
      have h1 : vp_in (x3 + (1 : Int32)) L := by rw [ex3]; exact lw_in 1 hlt (by omega) (by omega)
      have h2 : vp_in (x3 + (2 : Int32)) L := by rw [ex3]; exact lw_in 2 hlt (by omega) (by omega)
      have h3 : vp_in (x3 + (3 : Int32)) L := by rw [ex3]; exact lw_in 3 hlt (by omega) (by omega)
      have h4 : vp_in (x3 + (4 : Int32)) L := by rw [ex3]; exact lw_in 4 hlt (by omega) (by omega)
      have h5 : vp_in (x3 + (5 : Int32)) L := by rw [ex3]; exact lw_in 5 hlt (by omega) (by omega)
      have hq := HP.2 n σ τ (by omega) hR
      have next : ∀ (σ τ : St) (H : Heap), Rel (n + 1) σ τ → va_P D vwCl (gWl shC cy adC σ) H → va_P D vwCl (gWl shM cy adM τ) H → s.heap.size ≤ H.size → (∀ q : Nat, q < s.heap.size → H[q]? = s.heap[q]?) → W p l e room_1 s m #[Value.ref b] below meth c H [] 600000 7302250 (lw_Z below #[Value.ref b] s) (F0 m 1684 ls []) := by
        intro σ τ H hR PC PM hz hfr
        refine lv_iinc (v := x3 + 6) (lv' := [(3, .int (x3 + 6)), (0, .ref b), (1, .ref (adC 0)), (2, .ref (adM 0))]) X.1 X.2.1 (dck_at da_L_law_30 6 rfl) hl (k := 3) rfl (congrArg (HAdd.hAdd _) ki_6) (by decide) rfl (fun ls hl => ?_)
        refine lv_goto (tgt := 18) X.1 X.2.1 (dck_at da_L_law_30 7 rfl) rfl ?_
        exact ih (n + 1) (x3 + 6) σ τ H ls (by omega) (by omega) (by rw [ex3]; exact lw_add6 n) hR PC PM hz hfr (lv_sub hl [1, 2, 3, 0] rfl)
      refine lv_aload_n X.1 X.2.1 (dck_at da_L_law 16 rfl) rfl (lv_at hl 0 rfl) ?_
      refine lv_iload_n X.1 X.2.1 (dck_at da_L_law 17 rfl) rfl (lv_at hl 3 rfl) ?_
      refine va_sld X.1 X.2.1 hX hbl hbA hSf h0 (dck_at da_L_law 18 rfl) ?_
      refine lv_bipush X.1 X.2.1 (dck_at da_L_law 19 rfl) kb_63 ?_
      refine lv_iand X.1 X.2.1 (dck_at da_L_law 20 rfl) ?_
      generalize hw : xs x3.toNatClampNeg &&& (63 : Int32) = w
      by_cases c0 : w = (0 : Int32)
      · obtain ⟨r, σ1, τ1, eC, eM, hR⟩ := hq.1 (xs (x3 + (1 : Int32)).toNatClampNeg) (xs (x3 + (2 : Int32)).toNatClampNeg)
        refine lv_tableIn (tgt := 224) (off := 191) X.1 X.2.1 (dck_at da_L_law 21 rfl) (by rw [c0]; decide) (by rw [c0]; decide) (by rw [c0]; rfl) rfl ?_
        refine lv_aload_n X.1 X.2.1 (dck_at da_L_law 22 rfl) rfl (lv_at hl 1 rfl) ?_
        refine lv_aload_n X.1 X.2.1 (dck_at da_L_law 23 rfl) rfl (lv_at hl 0 rfl) ?_
        refine lv_iload_n X.1 X.2.1 (dck_at da_L_law 24 rfl) rfl (lv_at hl 3 rfl) ?_
        refine lv_iconst X.1 X.2.1 (dck_at da_L_law 25 rfl) ki_1 ?_
        refine lv_iadd X.1 X.2.1 (dck_at da_L_law 26 rfl) ?_
        refine va_sld X.1 X.2.1 hX hbl hbA hSf h1 (dck_at da_L_law 27 rfl) ?_
        refine lv_aload_n X.1 X.2.1 (dck_at da_L_law 28 rfl) rfl (lv_at hl 0 rfl) ?_
        refine lv_iload_n X.1 X.2.1 (dck_at da_L_law 29 rfl) rfl (lv_at hl 3 rfl) ?_
        refine lv_iconst X.1 X.2.1 (dck_at da_L_law 30 rfl) ki_2 ?_
        refine lv_iadd X.1 X.2.1 (dck_at da_L_law 31 rfl) ?_
        refine va_sld X.1 X.2.1 hX hbl hbA hSf h2 (dck_at da_L_law 32 rfl) ?_
        refine lw_backi (lw_runV (as := [.int (xs (x3 + (1 : Int32)).toNatClampNeg), .int (xs (x3 + (2 : Int32)).toNatClampNeg)]) (rest := []) X FC PC hz hfr (ok_c_kind eC) cv_RL_13 clC_0 ⟨Nat.le_of_ble_eq_true rfl, Nat.le_of_ble_eq_true rfl⟩ rfl hl.1 (Nat.le_of_ble_eq_true rfl) (dck_at da_L_law 33 rfl) ⟨Nat.le_of_ble_eq_true rfl, Nat.le_of_ble_eq_true rfl⟩) hnC PM rfl hapC hz hfr (fun H PC PM hz hfr => ?_)
        have hSf : va_S (fun q : Nat => s.heap.size ≤ q) s.heap H [] := ⟨hz, fun q h _ => hfr q h, fun _ h => by cases h⟩
        refine lv_aload_n X.1 X.2.1 (dck_at da_L_law 34 rfl) rfl (lv_at hl 2 rfl) ?_
        refine lv_aload_n X.1 X.2.1 (dck_at da_L_law 35 rfl) rfl (lv_at hl 0 rfl) ?_
        refine lv_iload_n X.1 X.2.1 (dck_at da_L_law 36 rfl) rfl (lv_at hl 3 rfl) ?_
        refine lv_iconst X.1 X.2.1 (dck_at da_L_law 37 rfl) ki_1 ?_
        refine lv_iadd X.1 X.2.1 (dck_at da_L_law 38 rfl) ?_
        refine va_sld X.1 X.2.1 hX hbl hbA hSf h1 (dck_at da_L_law 39 rfl) ?_
        refine lv_aload_n X.1 X.2.1 (dck_at da_L_law_1 0 rfl) rfl (lv_at hl 0 rfl) ?_
        refine lv_iload_n X.1 X.2.1 (dck_at da_L_law_1 1 rfl) rfl (lv_at hl 3 rfl) ?_
        refine lv_iconst X.1 X.2.1 (dck_at da_L_law_1 2 rfl) ki_2 ?_
        refine lv_iadd X.1 X.2.1 (dck_at da_L_law_1 3 rfl) ?_
        refine va_sld X.1 X.2.1 hX hbl hbA hSf h2 (dck_at da_L_law_1 4 rfl) ?_
        refine lw_backi (lw_runV (as := [.int (xs (x3 + (1 : Int32)).toNatClampNeg), .int (xs (x3 + (2 : Int32)).toNatClampNeg)]) (rest := [.int r]) X FM PM hz hfr (ok_m_kind eM) cv_RL_17 clM_0 ⟨Nat.le_of_ble_eq_true rfl, Nat.le_of_ble_eq_true rfl⟩ rfl hl.1 (Nat.le_of_ble_eq_true rfl) (dck_at da_L_law_1 5 rfl) ⟨Nat.le_of_ble_eq_true rfl, Nat.le_of_ble_eq_true rfl⟩) hnM PC rfl hapM hz hfr (fun H PM PC hz hfr => ?_)
        have hSf : va_S (fun q : Nat => s.heap.size ≤ q) s.heap H [] := ⟨hz, fun q h _ => hfr q h, fun _ h => by cases h⟩
        refine lv_icmp_eq (tgt := 1684) X.1 X.2.1 (dck_at da_L_law_1 6 rfl) rfl (fun _ => ?_) (fun c => absurd rfl c)
        exact next σ1 τ1 H hR PC PM hz hfr
      by_cases c1 : w = (1 : Int32)
      · obtain ⟨r, σ1, τ1, eC, eM, hR⟩ := hq.2.1 (xs (x3 + (1 : Int32)).toNatClampNeg) (xs (x3 + (2 : Int32)).toNatClampNeg)
        refine lv_tableIn (tgt := 257) (off := 224) X.1 X.2.1 (dck_at da_L_law 21 rfl) (by rw [c1]; decide) (by rw [c1]; decide) (by rw [c1]; rfl) rfl ?_
        refine lv_aload_n X.1 X.2.1 (dck_at da_L_law_1 9 rfl) rfl (lv_at hl 1 rfl) ?_
        refine lv_aload_n X.1 X.2.1 (dck_at da_L_law_1 10 rfl) rfl (lv_at hl 0 rfl) ?_
        refine lv_iload_n X.1 X.2.1 (dck_at da_L_law_1 11 rfl) rfl (lv_at hl 3 rfl) ?_
        refine lv_iconst X.1 X.2.1 (dck_at da_L_law_1 12 rfl) ki_1 ?_
        refine lv_iadd X.1 X.2.1 (dck_at da_L_law_1 13 rfl) ?_
        refine va_sld X.1 X.2.1 hX hbl hbA hSf h1 (dck_at da_L_law_1 14 rfl) ?_
        refine lv_aload_n X.1 X.2.1 (dck_at da_L_law_1 15 rfl) rfl (lv_at hl 0 rfl) ?_
        refine lv_iload_n X.1 X.2.1 (dck_at da_L_law_1 16 rfl) rfl (lv_at hl 3 rfl) ?_
        refine lv_iconst X.1 X.2.1 (dck_at da_L_law_1 17 rfl) ki_2 ?_
        refine lv_iadd X.1 X.2.1 (dck_at da_L_law_1 18 rfl) ?_
        refine va_sld X.1 X.2.1 hX hbl hbA hSf h2 (dck_at da_L_law_1 19 rfl) ?_
        refine lw_backi (lw_runV (as := [.int (xs (x3 + (1 : Int32)).toNatClampNeg), .int (xs (x3 + (2 : Int32)).toNatClampNeg)]) (rest := []) X FC PC hz hfr (ok_c_draw eC) cv_RL_18 clC_0 ⟨Nat.le_of_ble_eq_true rfl, Nat.le_of_ble_eq_true rfl⟩ rfl hl.1 (Nat.le_of_ble_eq_true rfl) (dck_at da_L_law_1 20 rfl) ⟨Nat.le_of_ble_eq_true rfl, Nat.le_of_ble_eq_true rfl⟩) hnC PM rfl hapC hz hfr (fun H PC PM hz hfr => ?_)
        have hSf : va_S (fun q : Nat => s.heap.size ≤ q) s.heap H [] := ⟨hz, fun q h _ => hfr q h, fun _ h => by cases h⟩
        refine lv_aload_n X.1 X.2.1 (dck_at da_L_law_1 21 rfl) rfl (lv_at hl 2 rfl) ?_
        refine lv_aload_n X.1 X.2.1 (dck_at da_L_law_1 22 rfl) rfl (lv_at hl 0 rfl) ?_
        refine lv_iload_n X.1 X.2.1 (dck_at da_L_law_1 23 rfl) rfl (lv_at hl 3 rfl) ?_
        refine lv_iconst X.1 X.2.1 (dck_at da_L_law_1 24 rfl) ki_1 ?_
        refine lv_iadd X.1 X.2.1 (dck_at da_L_law_1 25 rfl) ?_
        refine va_sld X.1 X.2.1 hX hbl hbA hSf h1 (dck_at da_L_law_1 26 rfl) ?_
        refine lv_aload_n X.1 X.2.1 (dck_at da_L_law_1 27 rfl) rfl (lv_at hl 0 rfl) ?_
        refine lv_iload_n X.1 X.2.1 (dck_at da_L_law_1 28 rfl) rfl (lv_at hl 3 rfl) ?_
        refine lv_iconst X.1 X.2.1 (dck_at da_L_law_1 29 rfl) ki_2 ?_
        refine lv_iadd X.1 X.2.1 (dck_at da_L_law_1 30 rfl) ?_
        refine va_sld X.1 X.2.1 hX hbl hbA hSf h2 (dck_at da_L_law_1 31 rfl) ?_
        refine lw_backi (lw_runV (as := [.int (xs (x3 + (1 : Int32)).toNatClampNeg), .int (xs (x3 + (2 : Int32)).toNatClampNeg)]) (rest := [.int r]) X FM PM hz hfr (ok_m_draw eM) cv_RL_21 clM_0 ⟨Nat.le_of_ble_eq_true rfl, Nat.le_of_ble_eq_true rfl⟩ rfl hl.1 (Nat.le_of_ble_eq_true rfl) (dck_at da_L_law_1 32 rfl) ⟨Nat.le_of_ble_eq_true rfl, Nat.le_of_ble_eq_true rfl⟩) hnM PC rfl hapM hz hfr (fun H PM PC hz hfr => ?_)
        have hSf : va_S (fun q : Nat => s.heap.size ≤ q) s.heap H [] := ⟨hz, fun q h _ => hfr q h, fun _ h => by cases h⟩
        refine lv_icmp_eq (tgt := 1684) X.1 X.2.1 (dck_at da_L_law_1 33 rfl) rfl (fun _ => ?_) (fun c => absurd rfl c)
        exact next σ1 τ1 H hR PC PM hz hfr
      by_cases c2 : w = (2 : Int32)
      · obtain ⟨r, σ1, τ1, eC, eM, hR⟩ := hq.2.2.1 (xs (x3 + (1 : Int32)).toNatClampNeg) (xs (x3 + (2 : Int32)).toNatClampNeg)
        refine lv_tableIn (tgt := 290) (off := 257) X.1 X.2.1 (dck_at da_L_law 21 rfl) (by rw [c2]; decide) (by rw [c2]; decide) (by rw [c2]; rfl) rfl ?_
        refine lv_aload_n X.1 X.2.1 (dck_at da_L_law_1 36 rfl) rfl (lv_at hl 1 rfl) ?_
        refine lv_aload_n X.1 X.2.1 (dck_at da_L_law_1 37 rfl) rfl (lv_at hl 0 rfl) ?_
        refine lv_iload_n X.1 X.2.1 (dck_at da_L_law_1 38 rfl) rfl (lv_at hl 3 rfl) ?_
        refine lv_iconst X.1 X.2.1 (dck_at da_L_law_1 39 rfl) ki_1 ?_
        refine lv_iadd X.1 X.2.1 (dck_at da_L_law_2 0 rfl) ?_
        refine va_sld X.1 X.2.1 hX hbl hbA hSf h1 (dck_at da_L_law_2 1 rfl) ?_
        refine lv_aload_n X.1 X.2.1 (dck_at da_L_law_2 2 rfl) rfl (lv_at hl 0 rfl) ?_
        refine lv_iload_n X.1 X.2.1 (dck_at da_L_law_2 3 rfl) rfl (lv_at hl 3 rfl) ?_
        refine lv_iconst X.1 X.2.1 (dck_at da_L_law_2 4 rfl) ki_2 ?_
        refine lv_iadd X.1 X.2.1 (dck_at da_L_law_2 5 rfl) ?_
        refine va_sld X.1 X.2.1 hX hbl hbA hSf h2 (dck_at da_L_law_2 6 rfl) ?_
        refine lw_backi (lw_runV (as := [.int (xs (x3 + (1 : Int32)).toNatClampNeg), .int (xs (x3 + (2 : Int32)).toNatClampNeg)]) (rest := []) X FC PC hz hfr (ok_c_told eC) cv_RL_22 clC_0 ⟨Nat.le_of_ble_eq_true rfl, Nat.le_of_ble_eq_true rfl⟩ rfl hl.1 (Nat.le_of_ble_eq_true rfl) (dck_at da_L_law_2 7 rfl) ⟨Nat.le_of_ble_eq_true rfl, Nat.le_of_ble_eq_true rfl⟩) hnC PM rfl hapC hz hfr (fun H PC PM hz hfr => ?_)
        have hSf : va_S (fun q : Nat => s.heap.size ≤ q) s.heap H [] := ⟨hz, fun q h _ => hfr q h, fun _ h => by cases h⟩
        refine lv_aload_n X.1 X.2.1 (dck_at da_L_law_2 8 rfl) rfl (lv_at hl 2 rfl) ?_
        refine lv_aload_n X.1 X.2.1 (dck_at da_L_law_2 9 rfl) rfl (lv_at hl 0 rfl) ?_
        refine lv_iload_n X.1 X.2.1 (dck_at da_L_law_2 10 rfl) rfl (lv_at hl 3 rfl) ?_
        refine lv_iconst X.1 X.2.1 (dck_at da_L_law_2 11 rfl) ki_1 ?_
        refine lv_iadd X.1 X.2.1 (dck_at da_L_law_2 12 rfl) ?_
        refine va_sld X.1 X.2.1 hX hbl hbA hSf h1 (dck_at da_L_law_2 13 rfl) ?_
        refine lv_aload_n X.1 X.2.1 (dck_at da_L_law_2 14 rfl) rfl (lv_at hl 0 rfl) ?_
        refine lv_iload_n X.1 X.2.1 (dck_at da_L_law_2 15 rfl) rfl (lv_at hl 3 rfl) ?_
        refine lv_iconst X.1 X.2.1 (dck_at da_L_law_2 16 rfl) ki_2 ?_
        refine lv_iadd X.1 X.2.1 (dck_at da_L_law_2 17 rfl) ?_
        refine va_sld X.1 X.2.1 hX hbl hbA hSf h2 (dck_at da_L_law_2 18 rfl) ?_
        refine lw_backi (lw_runV (as := [.int (xs (x3 + (1 : Int32)).toNatClampNeg), .int (xs (x3 + (2 : Int32)).toNatClampNeg)]) (rest := [.int r]) X FM PM hz hfr (ok_m_told eM) cv_RL_25 clM_0 ⟨Nat.le_of_ble_eq_true rfl, Nat.le_of_ble_eq_true rfl⟩ rfl hl.1 (Nat.le_of_ble_eq_true rfl) (dck_at da_L_law_2 19 rfl) ⟨Nat.le_of_ble_eq_true rfl, Nat.le_of_ble_eq_true rfl⟩) hnM PC rfl hapM hz hfr (fun H PM PC hz hfr => ?_)
        have hSf : va_S (fun q : Nat => s.heap.size ≤ q) s.heap H [] := ⟨hz, fun q h _ => hfr q h, fun _ h => by cases h⟩
        refine lv_icmp_eq (tgt := 1684) X.1 X.2.1 (dck_at da_L_law_2 20 rfl) rfl (fun _ => ?_) (fun c => absurd rfl c)
        exact next σ1 τ1 H hR PC PM hz hfr
      by_cases c3 : w = (3 : Int32)
      · obtain ⟨r, σ1, τ1, eC, eM, hR⟩ := hq.2.2.2.1 (xs (x3 + (1 : Int32)).toNatClampNeg) (xs (x3 + (2 : Int32)).toNatClampNeg)
        refine lv_tableIn (tgt := 323) (off := 290) X.1 X.2.1 (dck_at da_L_law 21 rfl) (by rw [c3]; decide) (by rw [c3]; decide) (by rw [c3]; rfl) rfl ?_
        refine lv_aload_n X.1 X.2.1 (dck_at da_L_law_2 23 rfl) rfl (lv_at hl 1 rfl) ?_
        refine lv_aload_n X.1 X.2.1 (dck_at da_L_law_2 24 rfl) rfl (lv_at hl 0 rfl) ?_
        refine lv_iload_n X.1 X.2.1 (dck_at da_L_law_2 25 rfl) rfl (lv_at hl 3 rfl) ?_
        refine lv_iconst X.1 X.2.1 (dck_at da_L_law_2 26 rfl) ki_1 ?_
        refine lv_iadd X.1 X.2.1 (dck_at da_L_law_2 27 rfl) ?_
        refine va_sld X.1 X.2.1 hX hbl hbA hSf h1 (dck_at da_L_law_2 28 rfl) ?_
        refine lv_aload_n X.1 X.2.1 (dck_at da_L_law_2 29 rfl) rfl (lv_at hl 0 rfl) ?_
        refine lv_iload_n X.1 X.2.1 (dck_at da_L_law_2 30 rfl) rfl (lv_at hl 3 rfl) ?_
        refine lv_iconst X.1 X.2.1 (dck_at da_L_law_2 31 rfl) ki_2 ?_
        refine lv_iadd X.1 X.2.1 (dck_at da_L_law_2 32 rfl) ?_
        refine va_sld X.1 X.2.1 hX hbl hbA hSf h2 (dck_at da_L_law_2 33 rfl) ?_
        refine lw_backi (lw_runV (as := [.int (xs (x3 + (1 : Int32)).toNatClampNeg), .int (xs (x3 + (2 : Int32)).toNatClampNeg)]) (rest := []) X FC PC hz hfr (ok_c_set eC) cv_RL_26 clC_0 ⟨Nat.le_of_ble_eq_true rfl, Nat.le_of_ble_eq_true rfl⟩ rfl hl.1 (Nat.le_of_ble_eq_true rfl) (dck_at da_L_law_2 34 rfl) ⟨Nat.le_of_ble_eq_true rfl, Nat.le_of_ble_eq_true rfl⟩) hnC PM rfl hapC hz hfr (fun H PC PM hz hfr => ?_)
        have hSf : va_S (fun q : Nat => s.heap.size ≤ q) s.heap H [] := ⟨hz, fun q h _ => hfr q h, fun _ h => by cases h⟩
        refine lv_aload_n X.1 X.2.1 (dck_at da_L_law_2 35 rfl) rfl (lv_at hl 2 rfl) ?_
        refine lv_aload_n X.1 X.2.1 (dck_at da_L_law_2 36 rfl) rfl (lv_at hl 0 rfl) ?_
        refine lv_iload_n X.1 X.2.1 (dck_at da_L_law_2 37 rfl) rfl (lv_at hl 3 rfl) ?_
        refine lv_iconst X.1 X.2.1 (dck_at da_L_law_2 38 rfl) ki_1 ?_
        refine lv_iadd X.1 X.2.1 (dck_at da_L_law_2 39 rfl) ?_
        refine va_sld X.1 X.2.1 hX hbl hbA hSf h1 (dck_at da_L_law_3 0 rfl) ?_
        refine lv_aload_n X.1 X.2.1 (dck_at da_L_law_3 1 rfl) rfl (lv_at hl 0 rfl) ?_
        refine lv_iload_n X.1 X.2.1 (dck_at da_L_law_3 2 rfl) rfl (lv_at hl 3 rfl) ?_
        refine lv_iconst X.1 X.2.1 (dck_at da_L_law_3 3 rfl) ki_2 ?_
        refine lv_iadd X.1 X.2.1 (dck_at da_L_law_3 4 rfl) ?_
        refine va_sld X.1 X.2.1 hX hbl hbA hSf h2 (dck_at da_L_law_3 5 rfl) ?_
        refine lw_backi (lw_runV (as := [.int (xs (x3 + (1 : Int32)).toNatClampNeg), .int (xs (x3 + (2 : Int32)).toNatClampNeg)]) (rest := [.int r]) X FM PM hz hfr (ok_m_set eM) cv_RL_29 clM_0 ⟨Nat.le_of_ble_eq_true rfl, Nat.le_of_ble_eq_true rfl⟩ rfl hl.1 (Nat.le_of_ble_eq_true rfl) (dck_at da_L_law_3 6 rfl) ⟨Nat.le_of_ble_eq_true rfl, Nat.le_of_ble_eq_true rfl⟩) hnM PC rfl hapM hz hfr (fun H PM PC hz hfr => ?_)
        have hSf : va_S (fun q : Nat => s.heap.size ≤ q) s.heap H [] := ⟨hz, fun q h _ => hfr q h, fun _ h => by cases h⟩
        refine lv_icmp_eq (tgt := 1684) X.1 X.2.1 (dck_at da_L_law_3 7 rfl) rfl (fun _ => ?_) (fun c => absurd rfl c)
        exact next σ1 τ1 H hR PC PM hz hfr
      by_cases c4 : w = (4 : Int32)
      · obtain ⟨r, σ1, τ1, eC, eM, hR⟩ := hq.2.2.2.2.1 (xs (x3 + (1 : Int32)).toNatClampNeg) (xs (x3 + (2 : Int32)).toNatClampNeg)
        refine lv_tableIn (tgt := 356) (off := 323) X.1 X.2.1 (dck_at da_L_law 21 rfl) (by rw [c4]; decide) (by rw [c4]; decide) (by rw [c4]; rfl) rfl ?_
        refine lv_aload_n X.1 X.2.1 (dck_at da_L_law_3 10 rfl) rfl (lv_at hl 1 rfl) ?_
        refine lv_aload_n X.1 X.2.1 (dck_at da_L_law_3 11 rfl) rfl (lv_at hl 0 rfl) ?_
        refine lv_iload_n X.1 X.2.1 (dck_at da_L_law_3 12 rfl) rfl (lv_at hl 3 rfl) ?_
        refine lv_iconst X.1 X.2.1 (dck_at da_L_law_3 13 rfl) ki_1 ?_
        refine lv_iadd X.1 X.2.1 (dck_at da_L_law_3 14 rfl) ?_
        refine va_sld X.1 X.2.1 hX hbl hbA hSf h1 (dck_at da_L_law_3 15 rfl) ?_
        refine lv_aload_n X.1 X.2.1 (dck_at da_L_law_3 16 rfl) rfl (lv_at hl 0 rfl) ?_
        refine lv_iload_n X.1 X.2.1 (dck_at da_L_law_3 17 rfl) rfl (lv_at hl 3 rfl) ?_
        refine lv_iconst X.1 X.2.1 (dck_at da_L_law_3 18 rfl) ki_2 ?_
        refine lv_iadd X.1 X.2.1 (dck_at da_L_law_3 19 rfl) ?_
        refine va_sld X.1 X.2.1 hX hbl hbA hSf h2 (dck_at da_L_law_3 20 rfl) ?_
        refine lw_backi (lw_runV (as := [.int (xs (x3 + (1 : Int32)).toNatClampNeg), .int (xs (x3 + (2 : Int32)).toNatClampNeg)]) (rest := []) X FC PC hz hfr (ok_c_sits eC) cv_RL_30 clC_0 ⟨Nat.le_of_ble_eq_true rfl, Nat.le_of_ble_eq_true rfl⟩ rfl hl.1 (Nat.le_of_ble_eq_true rfl) (dck_at da_L_law_3 21 rfl) ⟨Nat.le_of_ble_eq_true rfl, Nat.le_of_ble_eq_true rfl⟩) hnC PM rfl hapC hz hfr (fun H PC PM hz hfr => ?_)
        have hSf : va_S (fun q : Nat => s.heap.size ≤ q) s.heap H [] := ⟨hz, fun q h _ => hfr q h, fun _ h => by cases h⟩
        refine lv_aload_n X.1 X.2.1 (dck_at da_L_law_3 22 rfl) rfl (lv_at hl 2 rfl) ?_
        refine lv_aload_n X.1 X.2.1 (dck_at da_L_law_3 23 rfl) rfl (lv_at hl 0 rfl) ?_
        refine lv_iload_n X.1 X.2.1 (dck_at da_L_law_3 24 rfl) rfl (lv_at hl 3 rfl) ?_
        refine lv_iconst X.1 X.2.1 (dck_at da_L_law_3 25 rfl) ki_1 ?_
        refine lv_iadd X.1 X.2.1 (dck_at da_L_law_3 26 rfl) ?_
        refine va_sld X.1 X.2.1 hX hbl hbA hSf h1 (dck_at da_L_law_3 27 rfl) ?_
        refine lv_aload_n X.1 X.2.1 (dck_at da_L_law_3 28 rfl) rfl (lv_at hl 0 rfl) ?_
        refine lv_iload_n X.1 X.2.1 (dck_at da_L_law_3 29 rfl) rfl (lv_at hl 3 rfl) ?_
        refine lv_iconst X.1 X.2.1 (dck_at da_L_law_3 30 rfl) ki_2 ?_
        refine lv_iadd X.1 X.2.1 (dck_at da_L_law_3 31 rfl) ?_
        refine va_sld X.1 X.2.1 hX hbl hbA hSf h2 (dck_at da_L_law_3 32 rfl) ?_
        refine lw_backi (lw_runV (as := [.int (xs (x3 + (1 : Int32)).toNatClampNeg), .int (xs (x3 + (2 : Int32)).toNatClampNeg)]) (rest := [.int r]) X FM PM hz hfr (ok_m_sits eM) cv_RL_33 clM_0 ⟨Nat.le_of_ble_eq_true rfl, Nat.le_of_ble_eq_true rfl⟩ rfl hl.1 (Nat.le_of_ble_eq_true rfl) (dck_at da_L_law_3 33 rfl) ⟨Nat.le_of_ble_eq_true rfl, Nat.le_of_ble_eq_true rfl⟩) hnM PC rfl hapM hz hfr (fun H PM PC hz hfr => ?_)
        have hSf : va_S (fun q : Nat => s.heap.size ≤ q) s.heap H [] := ⟨hz, fun q h _ => hfr q h, fun _ h => by cases h⟩
        refine lv_icmp_eq (tgt := 1684) X.1 X.2.1 (dck_at da_L_law_3 34 rfl) rfl (fun _ => ?_) (fun c => absurd rfl c)
        exact next σ1 τ1 H hR PC PM hz hfr
      by_cases c5 : w = (5 : Int32)
      · obtain ⟨r, σ1, τ1, eC, eM, hR⟩ := hq.2.2.2.2.2.1 (((((xs (x3 + (1 : Int32)).toNatClampNeg)).toInt64) <<< (((32 : Int32)).toInt64 &&& 63)) ||| ((((xs (x3 + (2 : Int32)).toNatClampNeg)).toInt64) &&& (4294967295 : Int64))) (xs (x3 + (3 : Int32)).toNatClampNeg)
        refine lv_tableIn (tgt := 389) (off := 356) X.1 X.2.1 (dck_at da_L_law 21 rfl) (by rw [c5]; decide) (by rw [c5]; decide) (by rw [c5]; rfl) rfl ?_
        refine lv_aload_n X.1 X.2.1 (dck_at da_L_law_3 37 rfl) rfl (lv_at hl 1 rfl) ?_
        refine lv_aload_n X.1 X.2.1 (dck_at da_L_law_3 38 rfl) rfl (lv_at hl 0 rfl) ?_
        refine lv_iload_n X.1 X.2.1 (dck_at da_L_law_3 39 rfl) rfl (lv_at hl 3 rfl) ?_
        refine lv_iconst X.1 X.2.1 (dck_at da_L_law_4 0 rfl) ki_1 ?_
        refine lv_iadd X.1 X.2.1 (dck_at da_L_law_4 1 rfl) ?_
        refine va_sld X.1 X.2.1 hX hbl hbA hSf h1 (dck_at da_L_law_4 2 rfl) ?_
        refine lv_i2l (v := ((xs (x3 + (1 : Int32)).toNatClampNeg)).toInt64) X.1 X.2.1 (dck_at da_L_law_4 3 rfl) rfl ?_
        refine lv_bipush X.1 X.2.1 (dck_at da_L_law_4 4 rfl) kb_32 ?_
        refine lv_lshl (v := (((xs (x3 + (1 : Int32)).toNatClampNeg)).toInt64) <<< (((32 : Int32)).toInt64 &&& 63)) X.1 X.2.1 (dck_at da_L_law_4 5 rfl) rfl ?_
        refine lv_aload_n X.1 X.2.1 (dck_at da_L_law_4 6 rfl) rfl (lv_at hl 0 rfl) ?_
        refine lv_iload_n X.1 X.2.1 (dck_at da_L_law_4 7 rfl) rfl (lv_at hl 3 rfl) ?_
        refine lv_iconst X.1 X.2.1 (dck_at da_L_law_4 8 rfl) ki_2 ?_
        refine lv_iadd X.1 X.2.1 (dck_at da_L_law_4 9 rfl) ?_
        refine va_sld X.1 X.2.1 hX hbl hbA hSf h2 (dck_at da_L_law_4 10 rfl) ?_
        refine lv_i2l (v := ((xs (x3 + (2 : Int32)).toNatClampNeg)).toInt64) X.1 X.2.1 (dck_at da_L_law_4 11 rfl) rfl ?_
        refine lv_ldc2 X.1 X.2.1 X.2.2.2.1 (X.2.2.2.2 _ wm_1630) (dck_at da_L_law_4 12 rfl) ?_
        refine lv_land X.1 X.2.1 (dck_at da_L_law_4 13 rfl) ?_
        refine lv_lor X.1 X.2.1 (dck_at da_L_law_4 14 rfl) ?_
        refine lv_aload_n X.1 X.2.1 (dck_at da_L_law_4 15 rfl) rfl (lv_at hl 0 rfl) ?_
        refine lv_iload_n X.1 X.2.1 (dck_at da_L_law_4 16 rfl) rfl (lv_at hl 3 rfl) ?_
        refine lv_iconst X.1 X.2.1 (dck_at da_L_law_4 17 rfl) ki_3 ?_
        refine lv_iadd X.1 X.2.1 (dck_at da_L_law_4 18 rfl) ?_
        refine va_sld X.1 X.2.1 hX hbl hbA hSf h3 (dck_at da_L_law_4 19 rfl) ?_
        refine lw_backi (lw_runV (as := [.long (((((xs (x3 + (1 : Int32)).toNatClampNeg)).toInt64) <<< (((32 : Int32)).toInt64 &&& 63)) ||| ((((xs (x3 + (2 : Int32)).toNatClampNeg)).toInt64) &&& (4294967295 : Int64))), .int (xs (x3 + (3 : Int32)).toNatClampNeg)]) (rest := []) X FC PC hz hfr (ok_c_type eC) cv_RL_36 clC_0 ⟨Nat.le_of_ble_eq_true rfl, Nat.le_of_ble_eq_true rfl⟩ rfl hl.1 (Nat.le_of_ble_eq_true rfl) (dck_at da_L_law_4 20 rfl) ⟨Nat.le_of_ble_eq_true rfl, Nat.le_of_ble_eq_true rfl⟩) hnC PM rfl hapC hz hfr (fun H PC PM hz hfr => ?_)
        have hSf : va_S (fun q : Nat => s.heap.size ≤ q) s.heap H [] := ⟨hz, fun q h _ => hfr q h, fun _ h => by cases h⟩
        refine lv_aload_n X.1 X.2.1 (dck_at da_L_law_4 21 rfl) rfl (lv_at hl 2 rfl) ?_
        refine lv_aload_n X.1 X.2.1 (dck_at da_L_law_4 22 rfl) rfl (lv_at hl 0 rfl) ?_
        refine lv_iload_n X.1 X.2.1 (dck_at da_L_law_4 23 rfl) rfl (lv_at hl 3 rfl) ?_
        refine lv_iconst X.1 X.2.1 (dck_at da_L_law_4 24 rfl) ki_1 ?_
        refine lv_iadd X.1 X.2.1 (dck_at da_L_law_4 25 rfl) ?_
        refine va_sld X.1 X.2.1 hX hbl hbA hSf h1 (dck_at da_L_law_4 26 rfl) ?_
        refine lv_i2l (v := ((xs (x3 + (1 : Int32)).toNatClampNeg)).toInt64) X.1 X.2.1 (dck_at da_L_law_4 27 rfl) rfl ?_
        refine lv_bipush X.1 X.2.1 (dck_at da_L_law_4 28 rfl) kb_32 ?_
        refine lv_lshl (v := (((xs (x3 + (1 : Int32)).toNatClampNeg)).toInt64) <<< (((32 : Int32)).toInt64 &&& 63)) X.1 X.2.1 (dck_at da_L_law_4 29 rfl) rfl ?_
        refine lv_aload_n X.1 X.2.1 (dck_at da_L_law_4 30 rfl) rfl (lv_at hl 0 rfl) ?_
        refine lv_iload_n X.1 X.2.1 (dck_at da_L_law_4 31 rfl) rfl (lv_at hl 3 rfl) ?_
        refine lv_iconst X.1 X.2.1 (dck_at da_L_law_4 32 rfl) ki_2 ?_
        refine lv_iadd X.1 X.2.1 (dck_at da_L_law_4 33 rfl) ?_
        refine va_sld X.1 X.2.1 hX hbl hbA hSf h2 (dck_at da_L_law_4 34 rfl) ?_
        refine lv_i2l (v := ((xs (x3 + (2 : Int32)).toNatClampNeg)).toInt64) X.1 X.2.1 (dck_at da_L_law_4 35 rfl) rfl ?_
        refine lv_ldc2 X.1 X.2.1 X.2.2.2.1 (X.2.2.2.2 _ wm_1630) (dck_at da_L_law_4 36 rfl) ?_
        refine lv_land X.1 X.2.1 (dck_at da_L_law_4 37 rfl) ?_
        refine lv_lor X.1 X.2.1 (dck_at da_L_law_4 38 rfl) ?_
        refine lv_aload_n X.1 X.2.1 (dck_at da_L_law_4 39 rfl) rfl (lv_at hl 0 rfl) ?_
        refine lv_iload_n X.1 X.2.1 (dck_at da_L_law_5 0 rfl) rfl (lv_at hl 3 rfl) ?_
        refine lv_iconst X.1 X.2.1 (dck_at da_L_law_5 1 rfl) ki_3 ?_
        refine lv_iadd X.1 X.2.1 (dck_at da_L_law_5 2 rfl) ?_
        refine va_sld X.1 X.2.1 hX hbl hbA hSf h3 (dck_at da_L_law_5 3 rfl) ?_
        refine lw_backi (lw_runV (as := [.long (((((xs (x3 + (1 : Int32)).toNatClampNeg)).toInt64) <<< (((32 : Int32)).toInt64 &&& 63)) ||| ((((xs (x3 + (2 : Int32)).toNatClampNeg)).toInt64) &&& (4294967295 : Int64))), .int (xs (x3 + (3 : Int32)).toNatClampNeg)]) (rest := [.int r]) X FM PM hz hfr (ok_m_type eM) cv_RL_40 clM_0 ⟨Nat.le_of_ble_eq_true rfl, Nat.le_of_ble_eq_true rfl⟩ rfl hl.1 (Nat.le_of_ble_eq_true rfl) (dck_at da_L_law_5 4 rfl) ⟨Nat.le_of_ble_eq_true rfl, Nat.le_of_ble_eq_true rfl⟩) hnM PC rfl hapM hz hfr (fun H PM PC hz hfr => ?_)
        have hSf : va_S (fun q : Nat => s.heap.size ≤ q) s.heap H [] := ⟨hz, fun q h _ => hfr q h, fun _ h => by cases h⟩
        refine lv_icmp_eq (tgt := 1684) X.1 X.2.1 (dck_at da_L_law_5 5 rfl) rfl (fun _ => ?_) (fun c => absurd rfl c)
        exact next σ1 τ1 H hR PC PM hz hfr
      by_cases c6 : w = (6 : Int32)
      · obtain ⟨r, σ1, τ1, eC, eM, hR⟩ := hq.2.2.2.2.2.2.1
        refine lv_tableIn (tgt := 452) (off := 419) X.1 X.2.1 (dck_at da_L_law 21 rfl) (by rw [c6]; decide) (by rw [c6]; decide) (by rw [c6]; rfl) rfl ?_
        refine lv_aload_n X.1 X.2.1 (dck_at da_L_law_5 8 rfl) rfl (lv_at hl 1 rfl) ?_
        refine lw_backi (lw_runV (as := []) (rest := []) X FC PC hz hfr (ok_c_land eC) cv_RL_41 clC_0 ⟨Nat.le_of_ble_eq_true rfl, Nat.le_of_ble_eq_true rfl⟩ rfl hl.1 (Nat.le_of_ble_eq_true rfl) (dck_at da_L_law_5 9 rfl) ⟨Nat.le_of_ble_eq_true rfl, Nat.le_of_ble_eq_true rfl⟩) hnC PM rfl hapC hz hfr (fun H PC PM hz hfr => ?_)
        have hSf : va_S (fun q : Nat => s.heap.size ≤ q) s.heap H [] := ⟨hz, fun q h _ => hfr q h, fun _ h => by cases h⟩
        refine lv_aload_n X.1 X.2.1 (dck_at da_L_law_5 10 rfl) rfl (lv_at hl 2 rfl) ?_
        refine lw_backi (lw_runV (as := []) (rest := [.int r]) X FM PM hz hfr (ok_m_land eM) cv_RL_45 clM_0 ⟨Nat.le_of_ble_eq_true rfl, Nat.le_of_ble_eq_true rfl⟩ rfl hl.1 (Nat.le_of_ble_eq_true rfl) (dck_at da_L_law_5 11 rfl) ⟨Nat.le_of_ble_eq_true rfl, Nat.le_of_ble_eq_true rfl⟩) hnM PC rfl hapM hz hfr (fun H PM PC hz hfr => ?_)
        have hSf : va_S (fun q : Nat => s.heap.size ≤ q) s.heap H [] := ⟨hz, fun q h _ => hfr q h, fun _ h => by cases h⟩
        refine lv_icmp_eq (tgt := 1684) X.1 X.2.1 (dck_at da_L_law_5 12 rfl) rfl (fun _ => ?_) (fun c => absurd rfl c)
        exact next σ1 τ1 H hR PC PM hz hfr
      by_cases c7 : w = (7 : Int32)
      · obtain ⟨r, σ1, τ1, eC, eM, hR⟩ := hq.2.2.2.2.2.2.2.1
        refine lv_tableIn (tgt := 465) (off := 432) X.1 X.2.1 (dck_at da_L_law 21 rfl) (by rw [c7]; decide) (by rw [c7]; decide) (by rw [c7]; rfl) rfl ?_
        refine lv_aload_n X.1 X.2.1 (dck_at da_L_law_5 15 rfl) rfl (lv_at hl 1 rfl) ?_
        refine lw_backi (lw_runV (as := []) (rest := []) X FC PC hz hfr (ok_c_rules eC) cv_RL_46 clC_0 ⟨Nat.le_of_ble_eq_true rfl, Nat.le_of_ble_eq_true rfl⟩ rfl hl.1 (Nat.le_of_ble_eq_true rfl) (dck_at da_L_law_5 16 rfl) ⟨Nat.le_of_ble_eq_true rfl, Nat.le_of_ble_eq_true rfl⟩) hnC PM rfl hapC hz hfr (fun H PC PM hz hfr => ?_)
        have hSf : va_S (fun q : Nat => s.heap.size ≤ q) s.heap H [] := ⟨hz, fun q h _ => hfr q h, fun _ h => by cases h⟩
        refine lv_aload_n X.1 X.2.1 (dck_at da_L_law_5 17 rfl) rfl (lv_at hl 2 rfl) ?_
        refine lw_backi (lw_runV (as := []) (rest := [.int r]) X FM PM hz hfr (ok_m_rules eM) cv_RL_49 clM_0 ⟨Nat.le_of_ble_eq_true rfl, Nat.le_of_ble_eq_true rfl⟩ rfl hl.1 (Nat.le_of_ble_eq_true rfl) (dck_at da_L_law_5 18 rfl) ⟨Nat.le_of_ble_eq_true rfl, Nat.le_of_ble_eq_true rfl⟩) hnM PC rfl hapM hz hfr (fun H PM PC hz hfr => ?_)
        have hSf : va_S (fun q : Nat => s.heap.size ≤ q) s.heap H [] := ⟨hz, fun q h _ => hfr q h, fun _ h => by cases h⟩
        refine lv_icmp_eq (tgt := 1684) X.1 X.2.1 (dck_at da_L_law_5 19 rfl) rfl (fun _ => ?_) (fun c => absurd rfl c)
        exact next σ1 τ1 H hR PC PM hz hfr
      by_cases c8 : w = (8 : Int32)
      · obtain ⟨r, σ1, τ1, eC, eM, hR⟩ := hq.2.2.2.2.2.2.2.2.1 (xs (x3 + (1 : Int32)).toNatClampNeg) (xs (x3 + (2 : Int32)).toNatClampNeg)
        refine lv_tableIn (tgt := 478) (off := 445) X.1 X.2.1 (dck_at da_L_law 21 rfl) (by rw [c8]; decide) (by rw [c8]; decide) (by rw [c8]; rfl) rfl ?_
        refine lv_aload_n X.1 X.2.1 (dck_at da_L_law_5 22 rfl) rfl (lv_at hl 1 rfl) ?_
        refine lv_aload_n X.1 X.2.1 (dck_at da_L_law_5 23 rfl) rfl (lv_at hl 0 rfl) ?_
        refine lv_iload_n X.1 X.2.1 (dck_at da_L_law_5 24 rfl) rfl (lv_at hl 3 rfl) ?_
        refine lv_iconst X.1 X.2.1 (dck_at da_L_law_5 25 rfl) ki_1 ?_
        refine lv_iadd X.1 X.2.1 (dck_at da_L_law_5 26 rfl) ?_
        refine va_sld X.1 X.2.1 hX hbl hbA hSf h1 (dck_at da_L_law_5 27 rfl) ?_
        refine lv_aload_n X.1 X.2.1 (dck_at da_L_law_5 28 rfl) rfl (lv_at hl 0 rfl) ?_
        refine lv_iload_n X.1 X.2.1 (dck_at da_L_law_5 29 rfl) rfl (lv_at hl 3 rfl) ?_
        refine lv_iconst X.1 X.2.1 (dck_at da_L_law_5 30 rfl) ki_2 ?_
        refine lv_iadd X.1 X.2.1 (dck_at da_L_law_5 31 rfl) ?_
        refine va_sld X.1 X.2.1 hX hbl hbA hSf h2 (dck_at da_L_law_5 32 rfl) ?_
        refine lw_backi (lw_runV (as := [.int (xs (x3 + (1 : Int32)).toNatClampNeg), .int (xs (x3 + (2 : Int32)).toNatClampNeg)]) (rest := []) X FC PC hz hfr (ok_c_start eC) cv_RL_50 clC_0 ⟨Nat.le_of_ble_eq_true rfl, Nat.le_of_ble_eq_true rfl⟩ rfl hl.1 (Nat.le_of_ble_eq_true rfl) (dck_at da_L_law_5 33 rfl) ⟨Nat.le_of_ble_eq_true rfl, Nat.le_of_ble_eq_true rfl⟩) hnC PM rfl hapC hz hfr (fun H PC PM hz hfr => ?_)
        have hSf : va_S (fun q : Nat => s.heap.size ≤ q) s.heap H [] := ⟨hz, fun q h _ => hfr q h, fun _ h => by cases h⟩
        refine lv_aload_n X.1 X.2.1 (dck_at da_L_law_5 34 rfl) rfl (lv_at hl 2 rfl) ?_
        refine lv_aload_n X.1 X.2.1 (dck_at da_L_law_5 35 rfl) rfl (lv_at hl 0 rfl) ?_
        refine lv_iload_n X.1 X.2.1 (dck_at da_L_law_5 36 rfl) rfl (lv_at hl 3 rfl) ?_
        refine lv_iconst X.1 X.2.1 (dck_at da_L_law_5 37 rfl) ki_1 ?_
        refine lv_iadd X.1 X.2.1 (dck_at da_L_law_5 38 rfl) ?_
        refine va_sld X.1 X.2.1 hX hbl hbA hSf h1 (dck_at da_L_law_5 39 rfl) ?_
        refine lv_aload_n X.1 X.2.1 (dck_at da_L_law_6 0 rfl) rfl (lv_at hl 0 rfl) ?_
        refine lv_iload_n X.1 X.2.1 (dck_at da_L_law_6 1 rfl) rfl (lv_at hl 3 rfl) ?_
        refine lv_iconst X.1 X.2.1 (dck_at da_L_law_6 2 rfl) ki_2 ?_
        refine lv_iadd X.1 X.2.1 (dck_at da_L_law_6 3 rfl) ?_
        refine va_sld X.1 X.2.1 hX hbl hbA hSf h2 (dck_at da_L_law_6 4 rfl) ?_
        refine lw_backi (lw_runV (as := [.int (xs (x3 + (1 : Int32)).toNatClampNeg), .int (xs (x3 + (2 : Int32)).toNatClampNeg)]) (rest := [.int r]) X FM PM hz hfr (ok_m_start eM) cv_RL_53 clM_0 ⟨Nat.le_of_ble_eq_true rfl, Nat.le_of_ble_eq_true rfl⟩ rfl hl.1 (Nat.le_of_ble_eq_true rfl) (dck_at da_L_law_6 5 rfl) ⟨Nat.le_of_ble_eq_true rfl, Nat.le_of_ble_eq_true rfl⟩) hnM PC rfl hapM hz hfr (fun H PM PC hz hfr => ?_)
        have hSf : va_S (fun q : Nat => s.heap.size ≤ q) s.heap H [] := ⟨hz, fun q h _ => hfr q h, fun _ h => by cases h⟩
        refine lv_icmp_eq (tgt := 1684) X.1 X.2.1 (dck_at da_L_law_6 6 rfl) rfl (fun _ => ?_) (fun c => absurd rfl c)
        exact next σ1 τ1 H hR PC PM hz hfr
      by_cases c9 : w = (9 : Int32)
      · obtain ⟨r, σ1, τ1, eC, eM, hR⟩ := hq.2.2.2.2.2.2.2.2.2.1 (xs (x3 + (1 : Int32)).toNatClampNeg)
        refine lv_tableIn (tgt := 511) (off := 478) X.1 X.2.1 (dck_at da_L_law 21 rfl) (by rw [c9]; decide) (by rw [c9]; decide) (by rw [c9]; rfl) rfl ?_
        refine lv_aload_n X.1 X.2.1 (dck_at da_L_law_6 9 rfl) rfl (lv_at hl 1 rfl) ?_
        refine lv_aload_n X.1 X.2.1 (dck_at da_L_law_6 10 rfl) rfl (lv_at hl 0 rfl) ?_
        refine lv_iload_n X.1 X.2.1 (dck_at da_L_law_6 11 rfl) rfl (lv_at hl 3 rfl) ?_
        refine lv_iconst X.1 X.2.1 (dck_at da_L_law_6 12 rfl) ki_1 ?_
        refine lv_iadd X.1 X.2.1 (dck_at da_L_law_6 13 rfl) ?_
        refine va_sld X.1 X.2.1 hX hbl hbA hSf h1 (dck_at da_L_law_6 14 rfl) ?_
        refine lw_backi (lw_runV (as := [.int (xs (x3 + (1 : Int32)).toNatClampNeg)]) (rest := []) X FC PC hz hfr (ok_c_night eC) cv_RL_54 clC_0 ⟨Nat.le_of_ble_eq_true rfl, Nat.le_of_ble_eq_true rfl⟩ rfl hl.1 (Nat.le_of_ble_eq_true rfl) (dck_at da_L_law_6 15 rfl) ⟨Nat.le_of_ble_eq_true rfl, Nat.le_of_ble_eq_true rfl⟩) hnC PM rfl hapC hz hfr (fun H PC PM hz hfr => ?_)
        have hSf : va_S (fun q : Nat => s.heap.size ≤ q) s.heap H [] := ⟨hz, fun q h _ => hfr q h, fun _ h => by cases h⟩
        refine lv_aload_n X.1 X.2.1 (dck_at da_L_law_6 16 rfl) rfl (lv_at hl 2 rfl) ?_
        refine lv_aload_n X.1 X.2.1 (dck_at da_L_law_6 17 rfl) rfl (lv_at hl 0 rfl) ?_
        refine lv_iload_n X.1 X.2.1 (dck_at da_L_law_6 18 rfl) rfl (lv_at hl 3 rfl) ?_
        refine lv_iconst X.1 X.2.1 (dck_at da_L_law_6 19 rfl) ki_1 ?_
        refine lv_iadd X.1 X.2.1 (dck_at da_L_law_6 20 rfl) ?_
        refine va_sld X.1 X.2.1 hX hbl hbA hSf h1 (dck_at da_L_law_6 21 rfl) ?_
        refine lw_backi (lw_runV (as := [.int (xs (x3 + (1 : Int32)).toNatClampNeg)]) (rest := [.int r]) X FM PM hz hfr (ok_m_night eM) cv_RL_58 clM_0 ⟨Nat.le_of_ble_eq_true rfl, Nat.le_of_ble_eq_true rfl⟩ rfl hl.1 (Nat.le_of_ble_eq_true rfl) (dck_at da_L_law_6 22 rfl) ⟨Nat.le_of_ble_eq_true rfl, Nat.le_of_ble_eq_true rfl⟩) hnM PC rfl hapM hz hfr (fun H PM PC hz hfr => ?_)
        have hSf : va_S (fun q : Nat => s.heap.size ≤ q) s.heap H [] := ⟨hz, fun q h _ => hfr q h, fun _ h => by cases h⟩
        refine lv_icmp_eq (tgt := 1684) X.1 X.2.1 (dck_at da_L_law_6 23 rfl) rfl (fun _ => ?_) (fun c => absurd rfl c)
        exact next σ1 τ1 H hR PC PM hz hfr
      by_cases c10 : w = (10 : Int32)
      · obtain ⟨r, σ1, τ1, eC, eM, hR⟩ := hq.2.2.2.2.2.2.2.2.2.2.1 (xs (x3 + (1 : Int32)).toNatClampNeg) (xs (x3 + (2 : Int32)).toNatClampNeg)
        refine lv_tableIn (tgt := 534) (off := 501) X.1 X.2.1 (dck_at da_L_law 21 rfl) (by rw [c10]; decide) (by rw [c10]; decide) (by rw [c10]; rfl) rfl ?_
        refine lv_aload_n X.1 X.2.1 (dck_at da_L_law_6 26 rfl) rfl (lv_at hl 1 rfl) ?_
        refine lv_aload_n X.1 X.2.1 (dck_at da_L_law_6 27 rfl) rfl (lv_at hl 0 rfl) ?_
        refine lv_iload_n X.1 X.2.1 (dck_at da_L_law_6 28 rfl) rfl (lv_at hl 3 rfl) ?_
        refine lv_iconst X.1 X.2.1 (dck_at da_L_law_6 29 rfl) ki_1 ?_
        refine lv_iadd X.1 X.2.1 (dck_at da_L_law_6 30 rfl) ?_
        refine va_sld X.1 X.2.1 hX hbl hbA hSf h1 (dck_at da_L_law_6 31 rfl) ?_
        refine lv_aload_n X.1 X.2.1 (dck_at da_L_law_6 32 rfl) rfl (lv_at hl 0 rfl) ?_
        refine lv_iload_n X.1 X.2.1 (dck_at da_L_law_6 33 rfl) rfl (lv_at hl 3 rfl) ?_
        refine lv_iconst X.1 X.2.1 (dck_at da_L_law_6 34 rfl) ki_2 ?_
        refine lv_iadd X.1 X.2.1 (dck_at da_L_law_6 35 rfl) ?_
        refine va_sld X.1 X.2.1 hX hbl hbA hSf h2 (dck_at da_L_law_6 36 rfl) ?_
        refine lw_backl (lw_runV (as := [.int (xs (x3 + (1 : Int32)).toNatClampNeg), .int (xs (x3 + (2 : Int32)).toNatClampNeg)]) (rest := []) X FC PC hz hfr (ok_c_parts eC) cv_RL_59 clC_0 ⟨Nat.le_of_ble_eq_true rfl, Nat.le_of_ble_eq_true rfl⟩ rfl hl.1 (Nat.le_of_ble_eq_true rfl) (dck_at da_L_law_6 37 rfl) ⟨Nat.le_of_ble_eq_true rfl, Nat.le_of_ble_eq_true rfl⟩) hnC PM rfl hapC hz hfr (fun H PC PM hz hfr => ?_)
        have hSf : va_S (fun q : Nat => s.heap.size ≤ q) s.heap H [] := ⟨hz, fun q h _ => hfr q h, fun _ h => by cases h⟩
        refine lv_aload_n X.1 X.2.1 (dck_at da_L_law_6 38 rfl) rfl (lv_at hl 2 rfl) ?_
        refine lv_aload_n X.1 X.2.1 (dck_at da_L_law_6 39 rfl) rfl (lv_at hl 0 rfl) ?_
        refine lv_iload_n X.1 X.2.1 (dck_at da_L_law_7 0 rfl) rfl (lv_at hl 3 rfl) ?_
        refine lv_iconst X.1 X.2.1 (dck_at da_L_law_7 1 rfl) ki_1 ?_
        refine lv_iadd X.1 X.2.1 (dck_at da_L_law_7 2 rfl) ?_
        refine va_sld X.1 X.2.1 hX hbl hbA hSf h1 (dck_at da_L_law_7 3 rfl) ?_
        refine lv_aload_n X.1 X.2.1 (dck_at da_L_law_7 4 rfl) rfl (lv_at hl 0 rfl) ?_
        refine lv_iload_n X.1 X.2.1 (dck_at da_L_law_7 5 rfl) rfl (lv_at hl 3 rfl) ?_
        refine lv_iconst X.1 X.2.1 (dck_at da_L_law_7 6 rfl) ki_2 ?_
        refine lv_iadd X.1 X.2.1 (dck_at da_L_law_7 7 rfl) ?_
        refine va_sld X.1 X.2.1 hX hbl hbA hSf h2 (dck_at da_L_law_7 8 rfl) ?_
        refine lw_backl (lw_runV (as := [.int (xs (x3 + (1 : Int32)).toNatClampNeg), .int (xs (x3 + (2 : Int32)).toNatClampNeg)]) (rest := [.long r]) X FM PM hz hfr (ok_m_parts eM) cv_RL_63 clM_0 ⟨Nat.le_of_ble_eq_true rfl, Nat.le_of_ble_eq_true rfl⟩ rfl hl.1 (Nat.le_of_ble_eq_true rfl) (dck_at da_L_law_7 9 rfl) ⟨Nat.le_of_ble_eq_true rfl, Nat.le_of_ble_eq_true rfl⟩) hnM PC rfl hapM hz hfr (fun H PM PC hz hfr => ?_)
        have hSf : va_S (fun q : Nat => s.heap.size ≤ q) s.heap H [] := ⟨hz, fun q h _ => hfr q h, fun _ h => by cases h⟩
        refine W.lcmp X.1 X.2.1 (dck_at da_L_law_7 10 rfl) ?_
        refine lv_if_eq (tgt := 1684) X.1 X.2.1 (dck_at da_L_law_7 11 rfl) rfl (fun _ => ?_) (fun c => absurd ((lg_cmp_eq _ _).mpr rfl) c)
        exact next σ1 τ1 H hR PC PM hz hfr
      by_cases c11 : w = (11 : Int32)
      · obtain ⟨r, σ1, τ1, eC, eM, hR⟩ := hq.2.2.2.2.2.2.2.2.2.2.2.1 (xs (x3 + (1 : Int32)).toNatClampNeg) (xs (x3 + (2 : Int32)).toNatClampNeg)
        refine lv_tableIn (tgt := 568) (off := 535) X.1 X.2.1 (dck_at da_L_law 21 rfl) (by rw [c11]; decide) (by rw [c11]; decide) (by rw [c11]; rfl) rfl ?_
        refine lv_aload_n X.1 X.2.1 (dck_at da_L_law_7 14 rfl) rfl (lv_at hl 1 rfl) ?_
        refine lv_aload_n X.1 X.2.1 (dck_at da_L_law_7 15 rfl) rfl (lv_at hl 0 rfl) ?_
        refine lv_iload_n X.1 X.2.1 (dck_at da_L_law_7 16 rfl) rfl (lv_at hl 3 rfl) ?_
        refine lv_iconst X.1 X.2.1 (dck_at da_L_law_7 17 rfl) ki_1 ?_
        refine lv_iadd X.1 X.2.1 (dck_at da_L_law_7 18 rfl) ?_
        refine va_sld X.1 X.2.1 hX hbl hbA hSf h1 (dck_at da_L_law_7 19 rfl) ?_
        refine lv_aload_n X.1 X.2.1 (dck_at da_L_law_7 20 rfl) rfl (lv_at hl 0 rfl) ?_
        refine lv_iload_n X.1 X.2.1 (dck_at da_L_law_7 21 rfl) rfl (lv_at hl 3 rfl) ?_
        refine lv_iconst X.1 X.2.1 (dck_at da_L_law_7 22 rfl) ki_2 ?_
        refine lv_iadd X.1 X.2.1 (dck_at da_L_law_7 23 rfl) ?_
        refine va_sld X.1 X.2.1 hX hbl hbA hSf h2 (dck_at da_L_law_7 24 rfl) ?_
        refine lw_backl (lw_runV (as := [.int (xs (x3 + (1 : Int32)).toNatClampNeg), .int (xs (x3 + (2 : Int32)).toNatClampNeg)]) (rest := []) X FC PC hz hfr (ok_c_odds eC) cv_RL_64 clC_0 ⟨Nat.le_of_ble_eq_true rfl, Nat.le_of_ble_eq_true rfl⟩ rfl hl.1 (Nat.le_of_ble_eq_true rfl) (dck_at da_L_law_7 25 rfl) ⟨Nat.le_of_ble_eq_true rfl, Nat.le_of_ble_eq_true rfl⟩) hnC PM rfl hapC hz hfr (fun H PC PM hz hfr => ?_)
        have hSf : va_S (fun q : Nat => s.heap.size ≤ q) s.heap H [] := ⟨hz, fun q h _ => hfr q h, fun _ h => by cases h⟩
        refine lv_aload_n X.1 X.2.1 (dck_at da_L_law_7 26 rfl) rfl (lv_at hl 2 rfl) ?_
        refine lv_aload_n X.1 X.2.1 (dck_at da_L_law_7 27 rfl) rfl (lv_at hl 0 rfl) ?_
        refine lv_iload_n X.1 X.2.1 (dck_at da_L_law_7 28 rfl) rfl (lv_at hl 3 rfl) ?_
        refine lv_iconst X.1 X.2.1 (dck_at da_L_law_7 29 rfl) ki_1 ?_
        refine lv_iadd X.1 X.2.1 (dck_at da_L_law_7 30 rfl) ?_
        refine va_sld X.1 X.2.1 hX hbl hbA hSf h1 (dck_at da_L_law_7 31 rfl) ?_
        refine lv_aload_n X.1 X.2.1 (dck_at da_L_law_7 32 rfl) rfl (lv_at hl 0 rfl) ?_
        refine lv_iload_n X.1 X.2.1 (dck_at da_L_law_7 33 rfl) rfl (lv_at hl 3 rfl) ?_
        refine lv_iconst X.1 X.2.1 (dck_at da_L_law_7 34 rfl) ki_2 ?_
        refine lv_iadd X.1 X.2.1 (dck_at da_L_law_7 35 rfl) ?_
        refine va_sld X.1 X.2.1 hX hbl hbA hSf h2 (dck_at da_L_law_7 36 rfl) ?_
        refine lw_backl (lw_runV (as := [.int (xs (x3 + (1 : Int32)).toNatClampNeg), .int (xs (x3 + (2 : Int32)).toNatClampNeg)]) (rest := [.long r]) X FM PM hz hfr (ok_m_odds eM) cv_RL_67 clM_0 ⟨Nat.le_of_ble_eq_true rfl, Nat.le_of_ble_eq_true rfl⟩ rfl hl.1 (Nat.le_of_ble_eq_true rfl) (dck_at da_L_law_7 37 rfl) ⟨Nat.le_of_ble_eq_true rfl, Nat.le_of_ble_eq_true rfl⟩) hnM PC rfl hapM hz hfr (fun H PM PC hz hfr => ?_)
        have hSf : va_S (fun q : Nat => s.heap.size ≤ q) s.heap H [] := ⟨hz, fun q h _ => hfr q h, fun _ h => by cases h⟩
        refine W.lcmp X.1 X.2.1 (dck_at da_L_law_7 38 rfl) ?_
        refine lv_if_eq (tgt := 1684) X.1 X.2.1 (dck_at da_L_law_7 39 rfl) rfl (fun _ => ?_) (fun c => absurd ((lg_cmp_eq _ _).mpr rfl) c)
        exact next σ1 τ1 H hR PC PM hz hfr
      by_cases c12 : w = (12 : Int32)
      · obtain ⟨r, σ1, τ1, eC, eM, hR⟩ := hq.2.2.2.2.2.2.2.2.2.2.2.2.1 (xs (x3 + (1 : Int32)).toNatClampNeg)
        refine lv_tableIn (tgt := 602) (off := 569) X.1 X.2.1 (dck_at da_L_law 21 rfl) (by rw [c12]; decide) (by rw [c12]; decide) (by rw [c12]; rfl) rfl ?_
        refine lv_aload_n X.1 X.2.1 (dck_at da_L_law_8 2 rfl) rfl (lv_at hl 1 rfl) ?_
        refine lv_aload_n X.1 X.2.1 (dck_at da_L_law_8 3 rfl) rfl (lv_at hl 0 rfl) ?_
        refine lv_iload_n X.1 X.2.1 (dck_at da_L_law_8 4 rfl) rfl (lv_at hl 3 rfl) ?_
        refine lv_iconst X.1 X.2.1 (dck_at da_L_law_8 5 rfl) ki_1 ?_
        refine lv_iadd X.1 X.2.1 (dck_at da_L_law_8 6 rfl) ?_
        refine va_sld X.1 X.2.1 hX hbl hbA hSf h1 (dck_at da_L_law_8 7 rfl) ?_
        refine lw_backi (lw_runV (as := [.int (xs (x3 + (1 : Int32)).toNatClampNeg)]) (rest := []) X FC PC hz hfr (ok_c_where eC) cv_RL_68 clC_0 ⟨Nat.le_of_ble_eq_true rfl, Nat.le_of_ble_eq_true rfl⟩ rfl hl.1 (Nat.le_of_ble_eq_true rfl) (dck_at da_L_law_8 8 rfl) ⟨Nat.le_of_ble_eq_true rfl, Nat.le_of_ble_eq_true rfl⟩) hnC PM rfl hapC hz hfr (fun H PC PM hz hfr => ?_)
        have hSf : va_S (fun q : Nat => s.heap.size ≤ q) s.heap H [] := ⟨hz, fun q h _ => hfr q h, fun _ h => by cases h⟩
        refine lv_aload_n X.1 X.2.1 (dck_at da_L_law_8 9 rfl) rfl (lv_at hl 2 rfl) ?_
        refine lv_aload_n X.1 X.2.1 (dck_at da_L_law_8 10 rfl) rfl (lv_at hl 0 rfl) ?_
        refine lv_iload_n X.1 X.2.1 (dck_at da_L_law_8 11 rfl) rfl (lv_at hl 3 rfl) ?_
        refine lv_iconst X.1 X.2.1 (dck_at da_L_law_8 12 rfl) ki_1 ?_
        refine lv_iadd X.1 X.2.1 (dck_at da_L_law_8 13 rfl) ?_
        refine va_sld X.1 X.2.1 hX hbl hbA hSf h1 (dck_at da_L_law_8 14 rfl) ?_
        refine lw_backi (lw_runV (as := [.int (xs (x3 + (1 : Int32)).toNatClampNeg)]) (rest := [.int r]) X FM PM hz hfr (ok_m_where eM) cv_RL_71 clM_0 ⟨Nat.le_of_ble_eq_true rfl, Nat.le_of_ble_eq_true rfl⟩ rfl hl.1 (Nat.le_of_ble_eq_true rfl) (dck_at da_L_law_8 15 rfl) ⟨Nat.le_of_ble_eq_true rfl, Nat.le_of_ble_eq_true rfl⟩) hnM PC rfl hapM hz hfr (fun H PM PC hz hfr => ?_)
        have hSf : va_S (fun q : Nat => s.heap.size ≤ q) s.heap H [] := ⟨hz, fun q h _ => hfr q h, fun _ h => by cases h⟩
        refine lv_icmp_eq (tgt := 1684) X.1 X.2.1 (dck_at da_L_law_8 16 rfl) rfl (fun _ => ?_) (fun c => absurd rfl c)
        exact next σ1 τ1 H hR PC PM hz hfr
      by_cases c13 : w = (13 : Int32)
      · obtain ⟨r, σ1, τ1, eC, eM, hR⟩ := hq.2.2.2.2.2.2.2.2.2.2.2.2.2.1 (xs (x3 + (1 : Int32)).toNatClampNeg)
        refine lv_tableIn (tgt := 625) (off := 592) X.1 X.2.1 (dck_at da_L_law 21 rfl) (by rw [c13]; decide) (by rw [c13]; decide) (by rw [c13]; rfl) rfl ?_
        refine lv_aload_n X.1 X.2.1 (dck_at da_L_law_8 19 rfl) rfl (lv_at hl 1 rfl) ?_
        refine lv_aload_n X.1 X.2.1 (dck_at da_L_law_8 20 rfl) rfl (lv_at hl 0 rfl) ?_
        refine lv_iload_n X.1 X.2.1 (dck_at da_L_law_8 21 rfl) rfl (lv_at hl 3 rfl) ?_
        refine lv_iconst X.1 X.2.1 (dck_at da_L_law_8 22 rfl) ki_1 ?_
        refine lv_iadd X.1 X.2.1 (dck_at da_L_law_8 23 rfl) ?_
        refine va_sld X.1 X.2.1 hX hbl hbA hSf h1 (dck_at da_L_law_8 24 rfl) ?_
        refine lw_backi (lw_runV (as := [.int (xs (x3 + (1 : Int32)).toNatClampNeg)]) (rest := []) X FC PC hz hfr (ok_c_count eC) cv_RL_72 clC_0 ⟨Nat.le_of_ble_eq_true rfl, Nat.le_of_ble_eq_true rfl⟩ rfl hl.1 (Nat.le_of_ble_eq_true rfl) (dck_at da_L_law_8 25 rfl) ⟨Nat.le_of_ble_eq_true rfl, Nat.le_of_ble_eq_true rfl⟩) hnC PM rfl hapC hz hfr (fun H PC PM hz hfr => ?_)
        have hSf : va_S (fun q : Nat => s.heap.size ≤ q) s.heap H [] := ⟨hz, fun q h _ => hfr q h, fun _ h => by cases h⟩
        refine lv_aload_n X.1 X.2.1 (dck_at da_L_law_8 26 rfl) rfl (lv_at hl 2 rfl) ?_
        refine lv_aload_n X.1 X.2.1 (dck_at da_L_law_8 27 rfl) rfl (lv_at hl 0 rfl) ?_
        refine lv_iload_n X.1 X.2.1 (dck_at da_L_law_8 28 rfl) rfl (lv_at hl 3 rfl) ?_
        refine lv_iconst X.1 X.2.1 (dck_at da_L_law_8 29 rfl) ki_1 ?_
        refine lv_iadd X.1 X.2.1 (dck_at da_L_law_8 30 rfl) ?_
        refine va_sld X.1 X.2.1 hX hbl hbA hSf h1 (dck_at da_L_law_8 31 rfl) ?_
        refine lw_backi (lw_runV (as := [.int (xs (x3 + (1 : Int32)).toNatClampNeg)]) (rest := [.int r]) X FM PM hz hfr (ok_m_count eM) cv_RL_75 clM_0 ⟨Nat.le_of_ble_eq_true rfl, Nat.le_of_ble_eq_true rfl⟩ rfl hl.1 (Nat.le_of_ble_eq_true rfl) (dck_at da_L_law_8 32 rfl) ⟨Nat.le_of_ble_eq_true rfl, Nat.le_of_ble_eq_true rfl⟩) hnM PC rfl hapM hz hfr (fun H PM PC hz hfr => ?_)
        have hSf : va_S (fun q : Nat => s.heap.size ≤ q) s.heap H [] := ⟨hz, fun q h _ => hfr q h, fun _ h => by cases h⟩
        refine lv_icmp_eq (tgt := 1684) X.1 X.2.1 (dck_at da_L_law_8 33 rfl) rfl (fun _ => ?_) (fun c => absurd rfl c)
        exact next σ1 τ1 H hR PC PM hz hfr
      by_cases c14 : w = (14 : Int32)
      · obtain ⟨r, σ1, τ1, eC, eM, hR⟩ := hq.2.2.2.2.2.2.2.2.2.2.2.2.2.2.1 (xs (x3 + (1 : Int32)).toNatClampNeg) (xs (x3 + (2 : Int32)).toNatClampNeg) (xs (x3 + (3 : Int32)).toNatClampNeg)
        refine lv_tableIn (tgt := 648) (off := 615) X.1 X.2.1 (dck_at da_L_law 21 rfl) (by rw [c14]; decide) (by rw [c14]; decide) (by rw [c14]; rfl) rfl ?_
        refine lv_aload_n X.1 X.2.1 (dck_at da_L_law_8 36 rfl) rfl (lv_at hl 1 rfl) ?_
        refine lv_aload_n X.1 X.2.1 (dck_at da_L_law_8 37 rfl) rfl (lv_at hl 0 rfl) ?_
        refine lv_iload_n X.1 X.2.1 (dck_at da_L_law_8 38 rfl) rfl (lv_at hl 3 rfl) ?_
        refine lv_iconst X.1 X.2.1 (dck_at da_L_law_8 39 rfl) ki_1 ?_
        refine lv_iadd X.1 X.2.1 (dck_at da_L_law_9 0 rfl) ?_
        refine va_sld X.1 X.2.1 hX hbl hbA hSf h1 (dck_at da_L_law_9 1 rfl) ?_
        refine lv_aload_n X.1 X.2.1 (dck_at da_L_law_9 2 rfl) rfl (lv_at hl 0 rfl) ?_
        refine lv_iload_n X.1 X.2.1 (dck_at da_L_law_9 3 rfl) rfl (lv_at hl 3 rfl) ?_
        refine lv_iconst X.1 X.2.1 (dck_at da_L_law_9 4 rfl) ki_2 ?_
        refine lv_iadd X.1 X.2.1 (dck_at da_L_law_9 5 rfl) ?_
        refine va_sld X.1 X.2.1 hX hbl hbA hSf h2 (dck_at da_L_law_9 6 rfl) ?_
        refine lv_aload_n X.1 X.2.1 (dck_at da_L_law_9 7 rfl) rfl (lv_at hl 0 rfl) ?_
        refine lv_iload_n X.1 X.2.1 (dck_at da_L_law_9 8 rfl) rfl (lv_at hl 3 rfl) ?_
        refine lv_iconst X.1 X.2.1 (dck_at da_L_law_9 9 rfl) ki_3 ?_
        refine lv_iadd X.1 X.2.1 (dck_at da_L_law_9 10 rfl) ?_
        refine va_sld X.1 X.2.1 hX hbl hbA hSf h3 (dck_at da_L_law_9 11 rfl) ?_
        refine lw_backi (lw_runV (as := [.int (xs (x3 + (1 : Int32)).toNatClampNeg), .int (xs (x3 + (2 : Int32)).toNatClampNeg), .int (xs (x3 + (3 : Int32)).toNatClampNeg)]) (rest := []) X FC PC hz hfr (ok_c_sees eC) cv_RL_76 clC_0 ⟨Nat.le_of_ble_eq_true rfl, Nat.le_of_ble_eq_true rfl⟩ rfl hl.1 (Nat.le_of_ble_eq_true rfl) (dck_at da_L_law_9 12 rfl) ⟨Nat.le_of_ble_eq_true rfl, Nat.le_of_ble_eq_true rfl⟩) hnC PM rfl hapC hz hfr (fun H PC PM hz hfr => ?_)
        have hSf : va_S (fun q : Nat => s.heap.size ≤ q) s.heap H [] := ⟨hz, fun q h _ => hfr q h, fun _ h => by cases h⟩
        refine lv_aload_n X.1 X.2.1 (dck_at da_L_law_9 13 rfl) rfl (lv_at hl 2 rfl) ?_
        refine lv_aload_n X.1 X.2.1 (dck_at da_L_law_9 14 rfl) rfl (lv_at hl 0 rfl) ?_
        refine lv_iload_n X.1 X.2.1 (dck_at da_L_law_9 15 rfl) rfl (lv_at hl 3 rfl) ?_
        refine lv_iconst X.1 X.2.1 (dck_at da_L_law_9 16 rfl) ki_1 ?_
        refine lv_iadd X.1 X.2.1 (dck_at da_L_law_9 17 rfl) ?_
        refine va_sld X.1 X.2.1 hX hbl hbA hSf h1 (dck_at da_L_law_9 18 rfl) ?_
        refine lv_aload_n X.1 X.2.1 (dck_at da_L_law_9 19 rfl) rfl (lv_at hl 0 rfl) ?_
        refine lv_iload_n X.1 X.2.1 (dck_at da_L_law_9 20 rfl) rfl (lv_at hl 3 rfl) ?_
        refine lv_iconst X.1 X.2.1 (dck_at da_L_law_9 21 rfl) ki_2 ?_
        refine lv_iadd X.1 X.2.1 (dck_at da_L_law_9 22 rfl) ?_
        refine va_sld X.1 X.2.1 hX hbl hbA hSf h2 (dck_at da_L_law_9 23 rfl) ?_
        refine lv_aload_n X.1 X.2.1 (dck_at da_L_law_9 24 rfl) rfl (lv_at hl 0 rfl) ?_
        refine lv_iload_n X.1 X.2.1 (dck_at da_L_law_9 25 rfl) rfl (lv_at hl 3 rfl) ?_
        refine lv_iconst X.1 X.2.1 (dck_at da_L_law_9 26 rfl) ki_3 ?_
        refine lv_iadd X.1 X.2.1 (dck_at da_L_law_9 27 rfl) ?_
        refine va_sld X.1 X.2.1 hX hbl hbA hSf h3 (dck_at da_L_law_9 28 rfl) ?_
        refine lw_backi (lw_runV (as := [.int (xs (x3 + (1 : Int32)).toNatClampNeg), .int (xs (x3 + (2 : Int32)).toNatClampNeg), .int (xs (x3 + (3 : Int32)).toNatClampNeg)]) (rest := [.int r]) X FM PM hz hfr (ok_m_sees eM) cv_RL_80 clM_0 ⟨Nat.le_of_ble_eq_true rfl, Nat.le_of_ble_eq_true rfl⟩ rfl hl.1 (Nat.le_of_ble_eq_true rfl) (dck_at da_L_law_9 29 rfl) ⟨Nat.le_of_ble_eq_true rfl, Nat.le_of_ble_eq_true rfl⟩) hnM PC rfl hapM hz hfr (fun H PM PC hz hfr => ?_)
        have hSf : va_S (fun q : Nat => s.heap.size ≤ q) s.heap H [] := ⟨hz, fun q h _ => hfr q h, fun _ h => by cases h⟩
        refine lv_icmp_eq (tgt := 1684) X.1 X.2.1 (dck_at da_L_law_9 30 rfl) rfl (fun _ => ?_) (fun c => absurd rfl c)
        exact next σ1 τ1 H hR PC PM hz hfr
      by_cases c15 : w = (15 : Int32)
      · obtain ⟨r, σ1, τ1, eC, eM, hR⟩ := hq.2.2.2.2.2.2.2.2.2.2.2.2.2.2.2.1 (xs (x3 + (1 : Int32)).toNatClampNeg) (xs (x3 + (2 : Int32)).toNatClampNeg)
        refine lv_tableIn (tgt := 691) (off := 658) X.1 X.2.1 (dck_at da_L_law 21 rfl) (by rw [c15]; decide) (by rw [c15]; decide) (by rw [c15]; rfl) rfl ?_
        refine lv_aload_n X.1 X.2.1 (dck_at da_L_law_9 33 rfl) rfl (lv_at hl 1 rfl) ?_
        refine lv_aload_n X.1 X.2.1 (dck_at da_L_law_9 34 rfl) rfl (lv_at hl 0 rfl) ?_
        refine lv_iload_n X.1 X.2.1 (dck_at da_L_law_9 35 rfl) rfl (lv_at hl 3 rfl) ?_
        refine lv_iconst X.1 X.2.1 (dck_at da_L_law_9 36 rfl) ki_1 ?_
        refine lv_iadd X.1 X.2.1 (dck_at da_L_law_9 37 rfl) ?_
        refine va_sld X.1 X.2.1 hX hbl hbA hSf h1 (dck_at da_L_law_9 38 rfl) ?_
        refine lv_aload_n X.1 X.2.1 (dck_at da_L_law_9 39 rfl) rfl (lv_at hl 0 rfl) ?_
        refine lv_iload_n X.1 X.2.1 (dck_at da_L_law_10 0 rfl) rfl (lv_at hl 3 rfl) ?_
        refine lv_iconst X.1 X.2.1 (dck_at da_L_law_10 1 rfl) ki_2 ?_
        refine lv_iadd X.1 X.2.1 (dck_at da_L_law_10 2 rfl) ?_
        refine va_sld X.1 X.2.1 hX hbl hbA hSf h2 (dck_at da_L_law_10 3 rfl) ?_
        refine lw_backi (lw_runV (as := [.int (xs (x3 + (1 : Int32)).toNatClampNeg), .int (xs (x3 + (2 : Int32)).toNatClampNeg)]) (rest := []) X FC PC hz hfr (ok_c_search eC) cv_RL_81 clC_0 ⟨Nat.le_of_ble_eq_true rfl, Nat.le_of_ble_eq_true rfl⟩ rfl hl.1 (Nat.le_of_ble_eq_true rfl) (dck_at da_L_law_10 4 rfl) ⟨Nat.le_of_ble_eq_true rfl, Nat.le_of_ble_eq_true rfl⟩) hnC PM rfl hapC hz hfr (fun H PC PM hz hfr => ?_)
        have hSf : va_S (fun q : Nat => s.heap.size ≤ q) s.heap H [] := ⟨hz, fun q h _ => hfr q h, fun _ h => by cases h⟩
        refine lv_aload_n X.1 X.2.1 (dck_at da_L_law_10 5 rfl) rfl (lv_at hl 2 rfl) ?_
        refine lv_aload_n X.1 X.2.1 (dck_at da_L_law_10 6 rfl) rfl (lv_at hl 0 rfl) ?_
        refine lv_iload_n X.1 X.2.1 (dck_at da_L_law_10 7 rfl) rfl (lv_at hl 3 rfl) ?_
        refine lv_iconst X.1 X.2.1 (dck_at da_L_law_10 8 rfl) ki_1 ?_
        refine lv_iadd X.1 X.2.1 (dck_at da_L_law_10 9 rfl) ?_
        refine va_sld X.1 X.2.1 hX hbl hbA hSf h1 (dck_at da_L_law_10 10 rfl) ?_
        refine lv_aload_n X.1 X.2.1 (dck_at da_L_law_10 11 rfl) rfl (lv_at hl 0 rfl) ?_
        refine lv_iload_n X.1 X.2.1 (dck_at da_L_law_10 12 rfl) rfl (lv_at hl 3 rfl) ?_
        refine lv_iconst X.1 X.2.1 (dck_at da_L_law_10 13 rfl) ki_2 ?_
        refine lv_iadd X.1 X.2.1 (dck_at da_L_law_10 14 rfl) ?_
        refine va_sld X.1 X.2.1 hX hbl hbA hSf h2 (dck_at da_L_law_10 15 rfl) ?_
        refine lw_backi (lw_runV (as := [.int (xs (x3 + (1 : Int32)).toNatClampNeg), .int (xs (x3 + (2 : Int32)).toNatClampNeg)]) (rest := [.int r]) X FM PM hz hfr (ok_m_search eM) cv_RL_84 clM_0 ⟨Nat.le_of_ble_eq_true rfl, Nat.le_of_ble_eq_true rfl⟩ rfl hl.1 (Nat.le_of_ble_eq_true rfl) (dck_at da_L_law_10 16 rfl) ⟨Nat.le_of_ble_eq_true rfl, Nat.le_of_ble_eq_true rfl⟩) hnM PC rfl hapM hz hfr (fun H PM PC hz hfr => ?_)
        have hSf : va_S (fun q : Nat => s.heap.size ≤ q) s.heap H [] := ⟨hz, fun q h _ => hfr q h, fun _ h => by cases h⟩
        refine lv_icmp_eq (tgt := 1684) X.1 X.2.1 (dck_at da_L_law_10 17 rfl) rfl (fun _ => ?_) (fun c => absurd rfl c)
        exact next σ1 τ1 H hR PC PM hz hfr
      by_cases c16 : w = (16 : Int32)
      · obtain ⟨r, σ1, τ1, eC, eM, hR⟩ := hq.2.2.2.2.2.2.2.2.2.2.2.2.2.2.2.2.1 (xs (x3 + (1 : Int32)).toNatClampNeg)
        refine lv_tableIn (tgt := 724) (off := 691) X.1 X.2.1 (dck_at da_L_law 21 rfl) (by rw [c16]; decide) (by rw [c16]; decide) (by rw [c16]; rfl) rfl ?_
        refine lv_aload_n X.1 X.2.1 (dck_at da_L_law_10 20 rfl) rfl (lv_at hl 1 rfl) ?_
        refine lv_aload_n X.1 X.2.1 (dck_at da_L_law_10 21 rfl) rfl (lv_at hl 0 rfl) ?_
        refine lv_iload_n X.1 X.2.1 (dck_at da_L_law_10 22 rfl) rfl (lv_at hl 3 rfl) ?_
        refine lv_iconst X.1 X.2.1 (dck_at da_L_law_10 23 rfl) ki_1 ?_
        refine lv_iadd X.1 X.2.1 (dck_at da_L_law_10 24 rfl) ?_
        refine va_sld X.1 X.2.1 hX hbl hbA hSf h1 (dck_at da_L_law_10 25 rfl) ?_
        refine lw_backi (lw_runV (as := [.int (xs (x3 + (1 : Int32)).toNatClampNeg)]) (rest := []) X FC PC hz hfr (ok_c_alive eC) cv_RL_85 clC_0 ⟨Nat.le_of_ble_eq_true rfl, Nat.le_of_ble_eq_true rfl⟩ rfl hl.1 (Nat.le_of_ble_eq_true rfl) (dck_at da_L_law_10 26 rfl) ⟨Nat.le_of_ble_eq_true rfl, Nat.le_of_ble_eq_true rfl⟩) hnC PM rfl hapC hz hfr (fun H PC PM hz hfr => ?_)
        have hSf : va_S (fun q : Nat => s.heap.size ≤ q) s.heap H [] := ⟨hz, fun q h _ => hfr q h, fun _ h => by cases h⟩
        refine lv_aload_n X.1 X.2.1 (dck_at da_L_law_10 27 rfl) rfl (lv_at hl 2 rfl) ?_
        refine lv_aload_n X.1 X.2.1 (dck_at da_L_law_10 28 rfl) rfl (lv_at hl 0 rfl) ?_
        refine lv_iload_n X.1 X.2.1 (dck_at da_L_law_10 29 rfl) rfl (lv_at hl 3 rfl) ?_
        refine lv_iconst X.1 X.2.1 (dck_at da_L_law_10 30 rfl) ki_1 ?_
        refine lv_iadd X.1 X.2.1 (dck_at da_L_law_10 31 rfl) ?_
        refine va_sld X.1 X.2.1 hX hbl hbA hSf h1 (dck_at da_L_law_10 32 rfl) ?_
        refine lw_backi (lw_runV (as := [.int (xs (x3 + (1 : Int32)).toNatClampNeg)]) (rest := [.int r]) X FM PM hz hfr (ok_m_alive eM) cv_RL_88 clM_0 ⟨Nat.le_of_ble_eq_true rfl, Nat.le_of_ble_eq_true rfl⟩ rfl hl.1 (Nat.le_of_ble_eq_true rfl) (dck_at da_L_law_10 33 rfl) ⟨Nat.le_of_ble_eq_true rfl, Nat.le_of_ble_eq_true rfl⟩) hnM PC rfl hapM hz hfr (fun H PM PC hz hfr => ?_)
        have hSf : va_S (fun q : Nat => s.heap.size ≤ q) s.heap H [] := ⟨hz, fun q h _ => hfr q h, fun _ h => by cases h⟩
        refine lv_icmp_eq (tgt := 1684) X.1 X.2.1 (dck_at da_L_law_10 34 rfl) rfl (fun _ => ?_) (fun c => absurd rfl c)
        exact next σ1 τ1 H hR PC PM hz hfr
      by_cases c17 : w = (17 : Int32)
      · obtain ⟨r, σ1, τ1, eC, eM, hR⟩ := hq.2.2.2.2.2.2.2.2.2.2.2.2.2.2.2.2.2.1 (xs (x3 + (1 : Int32)).toNatClampNeg) (xs (x3 + (2 : Int32)).toNatClampNeg) (xs (x3 + (3 : Int32)).toNatClampNeg)
        refine lv_tableIn (tgt := 747) (off := 714) X.1 X.2.1 (dck_at da_L_law 21 rfl) (by rw [c17]; decide) (by rw [c17]; decide) (by rw [c17]; rfl) rfl ?_
        refine lv_aload_n X.1 X.2.1 (dck_at da_L_law_10 37 rfl) rfl (lv_at hl 1 rfl) ?_
        refine lv_aload_n X.1 X.2.1 (dck_at da_L_law_10 38 rfl) rfl (lv_at hl 0 rfl) ?_
        refine lv_iload_n X.1 X.2.1 (dck_at da_L_law_10 39 rfl) rfl (lv_at hl 3 rfl) ?_
        refine lv_iconst X.1 X.2.1 (dck_at da_L_law_11 0 rfl) ki_1 ?_
        refine lv_iadd X.1 X.2.1 (dck_at da_L_law_11 1 rfl) ?_
        refine va_sld X.1 X.2.1 hX hbl hbA hSf h1 (dck_at da_L_law_11 2 rfl) ?_
        refine lv_aload_n X.1 X.2.1 (dck_at da_L_law_11 3 rfl) rfl (lv_at hl 0 rfl) ?_
        refine lv_iload_n X.1 X.2.1 (dck_at da_L_law_11 4 rfl) rfl (lv_at hl 3 rfl) ?_
        refine lv_iconst X.1 X.2.1 (dck_at da_L_law_11 5 rfl) ki_2 ?_
        refine lv_iadd X.1 X.2.1 (dck_at da_L_law_11 6 rfl) ?_
        refine va_sld X.1 X.2.1 hX hbl hbA hSf h2 (dck_at da_L_law_11 7 rfl) ?_
        refine lv_aload_n X.1 X.2.1 (dck_at da_L_law_11 8 rfl) rfl (lv_at hl 0 rfl) ?_
        refine lv_iload_n X.1 X.2.1 (dck_at da_L_law_11 9 rfl) rfl (lv_at hl 3 rfl) ?_
        refine lv_iconst X.1 X.2.1 (dck_at da_L_law_11 10 rfl) ki_3 ?_
        refine lv_iadd X.1 X.2.1 (dck_at da_L_law_11 11 rfl) ?_
        refine va_sld X.1 X.2.1 hX hbl hbA hSf h3 (dck_at da_L_law_11 12 rfl) ?_
        refine lw_backi (lw_runV (as := [.int (xs (x3 + (1 : Int32)).toNatClampNeg), .int (xs (x3 + (2 : Int32)).toNatClampNeg), .int (xs (x3 + (3 : Int32)).toNatClampNeg)]) (rest := []) X FC PC hz hfr (ok_c_team eC) cv_RL_89 clC_0 ⟨Nat.le_of_ble_eq_true rfl, Nat.le_of_ble_eq_true rfl⟩ rfl hl.1 (Nat.le_of_ble_eq_true rfl) (dck_at da_L_law_11 13 rfl) ⟨Nat.le_of_ble_eq_true rfl, Nat.le_of_ble_eq_true rfl⟩) hnC PM rfl hapC hz hfr (fun H PC PM hz hfr => ?_)
        have hSf : va_S (fun q : Nat => s.heap.size ≤ q) s.heap H [] := ⟨hz, fun q h _ => hfr q h, fun _ h => by cases h⟩
        refine lv_aload_n X.1 X.2.1 (dck_at da_L_law_11 14 rfl) rfl (lv_at hl 2 rfl) ?_
        refine lv_aload_n X.1 X.2.1 (dck_at da_L_law_11 15 rfl) rfl (lv_at hl 0 rfl) ?_
        refine lv_iload_n X.1 X.2.1 (dck_at da_L_law_11 16 rfl) rfl (lv_at hl 3 rfl) ?_
        refine lv_iconst X.1 X.2.1 (dck_at da_L_law_11 17 rfl) ki_1 ?_
        refine lv_iadd X.1 X.2.1 (dck_at da_L_law_11 18 rfl) ?_
        refine va_sld X.1 X.2.1 hX hbl hbA hSf h1 (dck_at da_L_law_11 19 rfl) ?_
        refine lv_aload_n X.1 X.2.1 (dck_at da_L_law_11 20 rfl) rfl (lv_at hl 0 rfl) ?_
        refine lv_iload_n X.1 X.2.1 (dck_at da_L_law_11 21 rfl) rfl (lv_at hl 3 rfl) ?_
        refine lv_iconst X.1 X.2.1 (dck_at da_L_law_11 22 rfl) ki_2 ?_
        refine lv_iadd X.1 X.2.1 (dck_at da_L_law_11 23 rfl) ?_
        refine va_sld X.1 X.2.1 hX hbl hbA hSf h2 (dck_at da_L_law_11 24 rfl) ?_
        refine lv_aload_n X.1 X.2.1 (dck_at da_L_law_11 25 rfl) rfl (lv_at hl 0 rfl) ?_
        refine lv_iload_n X.1 X.2.1 (dck_at da_L_law_11 26 rfl) rfl (lv_at hl 3 rfl) ?_
        refine lv_iconst X.1 X.2.1 (dck_at da_L_law_11 27 rfl) ki_3 ?_
        refine lv_iadd X.1 X.2.1 (dck_at da_L_law_11 28 rfl) ?_
        refine va_sld X.1 X.2.1 hX hbl hbA hSf h3 (dck_at da_L_law_11 29 rfl) ?_
        refine lw_backi (lw_runV (as := [.int (xs (x3 + (1 : Int32)).toNatClampNeg), .int (xs (x3 + (2 : Int32)).toNatClampNeg), .int (xs (x3 + (3 : Int32)).toNatClampNeg)]) (rest := [.int r]) X FM PM hz hfr (ok_m_team eM) cv_RL_92 clM_0 ⟨Nat.le_of_ble_eq_true rfl, Nat.le_of_ble_eq_true rfl⟩ rfl hl.1 (Nat.le_of_ble_eq_true rfl) (dck_at da_L_law_11 30 rfl) ⟨Nat.le_of_ble_eq_true rfl, Nat.le_of_ble_eq_true rfl⟩) hnM PC rfl hapM hz hfr (fun H PM PC hz hfr => ?_)
        have hSf : va_S (fun q : Nat => s.heap.size ≤ q) s.heap H [] := ⟨hz, fun q h _ => hfr q h, fun _ h => by cases h⟩
        refine lv_icmp_eq (tgt := 1684) X.1 X.2.1 (dck_at da_L_law_11 31 rfl) rfl (fun _ => ?_) (fun c => absurd rfl c)
        exact next σ1 τ1 H hR PC PM hz hfr
      by_cases c18 : w = (18 : Int32)
      · obtain ⟨r, σ1, τ1, eC, eM, hR⟩ := hq.2.2.2.2.2.2.2.2.2.2.2.2.2.2.2.2.2.2.1 (xs (x3 + (1 : Int32)).toNatClampNeg)
        refine lv_tableIn (tgt := 790) (off := 757) X.1 X.2.1 (dck_at da_L_law 21 rfl) (by rw [c18]; decide) (by rw [c18]; decide) (by rw [c18]; rfl) rfl ?_
        refine lv_aload_n X.1 X.2.1 (dck_at da_L_law_11 34 rfl) rfl (lv_at hl 1 rfl) ?_
        refine lv_aload_n X.1 X.2.1 (dck_at da_L_law_11 35 rfl) rfl (lv_at hl 0 rfl) ?_
        refine lv_iload_n X.1 X.2.1 (dck_at da_L_law_11 36 rfl) rfl (lv_at hl 3 rfl) ?_
        refine lv_iconst X.1 X.2.1 (dck_at da_L_law_11 37 rfl) ki_1 ?_
        refine lv_iadd X.1 X.2.1 (dck_at da_L_law_11 38 rfl) ?_
        refine va_sld X.1 X.2.1 hX hbl hbA hSf h1 (dck_at da_L_law_11 39 rfl) ?_
        refine lw_backi (lw_runV (as := [.int (xs (x3 + (1 : Int32)).toNatClampNeg)]) (rest := []) X FC PC hz hfr (ok_c_place eC) cv_RL_93 clC_0 ⟨Nat.le_of_ble_eq_true rfl, Nat.le_of_ble_eq_true rfl⟩ rfl hl.1 (Nat.le_of_ble_eq_true rfl) (dck_at da_L_law_12 0 rfl) ⟨Nat.le_of_ble_eq_true rfl, Nat.le_of_ble_eq_true rfl⟩) hnC PM rfl hapC hz hfr (fun H PC PM hz hfr => ?_)
        have hSf : va_S (fun q : Nat => s.heap.size ≤ q) s.heap H [] := ⟨hz, fun q h _ => hfr q h, fun _ h => by cases h⟩
        refine lv_aload_n X.1 X.2.1 (dck_at da_L_law_12 1 rfl) rfl (lv_at hl 2 rfl) ?_
        refine lv_aload_n X.1 X.2.1 (dck_at da_L_law_12 2 rfl) rfl (lv_at hl 0 rfl) ?_
        refine lv_iload_n X.1 X.2.1 (dck_at da_L_law_12 3 rfl) rfl (lv_at hl 3 rfl) ?_
        refine lv_iconst X.1 X.2.1 (dck_at da_L_law_12 4 rfl) ki_1 ?_
        refine lv_iadd X.1 X.2.1 (dck_at da_L_law_12 5 rfl) ?_
        refine va_sld X.1 X.2.1 hX hbl hbA hSf h1 (dck_at da_L_law_12 6 rfl) ?_
        refine lw_backi (lw_runV (as := [.int (xs (x3 + (1 : Int32)).toNatClampNeg)]) (rest := [.int r]) X FM PM hz hfr (ok_m_place eM) cv_RL_96 clM_0 ⟨Nat.le_of_ble_eq_true rfl, Nat.le_of_ble_eq_true rfl⟩ rfl hl.1 (Nat.le_of_ble_eq_true rfl) (dck_at da_L_law_12 7 rfl) ⟨Nat.le_of_ble_eq_true rfl, Nat.le_of_ble_eq_true rfl⟩) hnM PC rfl hapM hz hfr (fun H PM PC hz hfr => ?_)
        have hSf : va_S (fun q : Nat => s.heap.size ≤ q) s.heap H [] := ⟨hz, fun q h _ => hfr q h, fun _ h => by cases h⟩
        refine lv_icmp_eq (tgt := 1684) X.1 X.2.1 (dck_at da_L_law_12 8 rfl) rfl (fun _ => ?_) (fun c => absurd rfl c)
        exact next σ1 τ1 H hR PC PM hz hfr
      by_cases c19 : w = (19 : Int32)
      · obtain ⟨r, σ1, τ1, eC, eM, hR⟩ := hq.2.2.2.2.2.2.2.2.2.2.2.2.2.2.2.2.2.2.2.1 (xs (x3 + (1 : Int32)).toNatClampNeg)
        refine lv_tableIn (tgt := 813) (off := 780) X.1 X.2.1 (dck_at da_L_law 21 rfl) (by rw [c19]; decide) (by rw [c19]; decide) (by rw [c19]; rfl) rfl ?_
        refine lv_aload_n X.1 X.2.1 (dck_at da_L_law_12 11 rfl) rfl (lv_at hl 1 rfl) ?_
        refine lv_aload_n X.1 X.2.1 (dck_at da_L_law_12 12 rfl) rfl (lv_at hl 0 rfl) ?_
        refine lv_iload_n X.1 X.2.1 (dck_at da_L_law_12 13 rfl) rfl (lv_at hl 3 rfl) ?_
        refine lv_iconst X.1 X.2.1 (dck_at da_L_law_12 14 rfl) ki_1 ?_
        refine lv_iadd X.1 X.2.1 (dck_at da_L_law_12 15 rfl) ?_
        refine va_sld X.1 X.2.1 hX hbl hbA hSf h1 (dck_at da_L_law_12 16 rfl) ?_
        refine lw_backl (lw_runV (as := [.int (xs (x3 + (1 : Int32)).toNatClampNeg)]) (rest := []) X FC PC hz hfr (ok_c_whom eC) cv_RL_97 clC_0 ⟨Nat.le_of_ble_eq_true rfl, Nat.le_of_ble_eq_true rfl⟩ rfl hl.1 (Nat.le_of_ble_eq_true rfl) (dck_at da_L_law_12 17 rfl) ⟨Nat.le_of_ble_eq_true rfl, Nat.le_of_ble_eq_true rfl⟩) hnC PM rfl hapC hz hfr (fun H PC PM hz hfr => ?_)
        have hSf : va_S (fun q : Nat => s.heap.size ≤ q) s.heap H [] := ⟨hz, fun q h _ => hfr q h, fun _ h => by cases h⟩
        refine lv_aload_n X.1 X.2.1 (dck_at da_L_law_12 18 rfl) rfl (lv_at hl 2 rfl) ?_
        refine lv_aload_n X.1 X.2.1 (dck_at da_L_law_12 19 rfl) rfl (lv_at hl 0 rfl) ?_
        refine lv_iload_n X.1 X.2.1 (dck_at da_L_law_12 20 rfl) rfl (lv_at hl 3 rfl) ?_
        refine lv_iconst X.1 X.2.1 (dck_at da_L_law_12 21 rfl) ki_1 ?_
        refine lv_iadd X.1 X.2.1 (dck_at da_L_law_12 22 rfl) ?_
        refine va_sld X.1 X.2.1 hX hbl hbA hSf h1 (dck_at da_L_law_12 23 rfl) ?_
        refine lw_backl (lw_runV (as := [.int (xs (x3 + (1 : Int32)).toNatClampNeg)]) (rest := [.long r]) X FM PM hz hfr (ok_m_whom eM) cv_RL_101 clM_0 ⟨Nat.le_of_ble_eq_true rfl, Nat.le_of_ble_eq_true rfl⟩ rfl hl.1 (Nat.le_of_ble_eq_true rfl) (dck_at da_L_law_12 24 rfl) ⟨Nat.le_of_ble_eq_true rfl, Nat.le_of_ble_eq_true rfl⟩) hnM PC rfl hapM hz hfr (fun H PM PC hz hfr => ?_)
        have hSf : va_S (fun q : Nat => s.heap.size ≤ q) s.heap H [] := ⟨hz, fun q h _ => hfr q h, fun _ h => by cases h⟩
        refine W.lcmp X.1 X.2.1 (dck_at da_L_law_12 25 rfl) ?_
        refine lv_if_eq (tgt := 1684) X.1 X.2.1 (dck_at da_L_law_12 26 rfl) rfl (fun _ => ?_) (fun c => absurd ((lg_cmp_eq _ _).mpr rfl) c)
        exact next σ1 τ1 H hR PC PM hz hfr
      by_cases c20 : w = (20 : Int32)
      · obtain ⟨r, σ1, τ1, eC, eM, hR⟩ := hq.2.2.2.2.2.2.2.2.2.2.2.2.2.2.2.2.2.2.2.2.1
        refine lv_tableIn (tgt := 837) (off := 804) X.1 X.2.1 (dck_at da_L_law 21 rfl) (by rw [c20]; decide) (by rw [c20]; decide) (by rw [c20]; rfl) rfl ?_
        refine lv_aload_n X.1 X.2.1 (dck_at da_L_law_12 29 rfl) rfl (lv_at hl 1 rfl) ?_
        refine lw_backl (lw_runV (as := []) (rest := []) X FC PC hz hfr (ok_c_bound eC) cv_RL_102 clC_0 ⟨Nat.le_of_ble_eq_true rfl, Nat.le_of_ble_eq_true rfl⟩ rfl hl.1 (Nat.le_of_ble_eq_true rfl) (dck_at da_L_law_12 30 rfl) ⟨Nat.le_of_ble_eq_true rfl, Nat.le_of_ble_eq_true rfl⟩) hnC PM rfl hapC hz hfr (fun H PC PM hz hfr => ?_)
        have hSf : va_S (fun q : Nat => s.heap.size ≤ q) s.heap H [] := ⟨hz, fun q h _ => hfr q h, fun _ h => by cases h⟩
        refine lv_aload_n X.1 X.2.1 (dck_at da_L_law_12 31 rfl) rfl (lv_at hl 2 rfl) ?_
        refine lw_backl (lw_runV (as := []) (rest := [.long r]) X FM PM hz hfr (ok_m_bound eM) cv_RL_106 clM_0 ⟨Nat.le_of_ble_eq_true rfl, Nat.le_of_ble_eq_true rfl⟩ rfl hl.1 (Nat.le_of_ble_eq_true rfl) (dck_at da_L_law_12 32 rfl) ⟨Nat.le_of_ble_eq_true rfl, Nat.le_of_ble_eq_true rfl⟩) hnM PC rfl hapM hz hfr (fun H PM PC hz hfr => ?_)
        have hSf : va_S (fun q : Nat => s.heap.size ≤ q) s.heap H [] := ⟨hz, fun q h _ => hfr q h, fun _ h => by cases h⟩
        refine W.lcmp X.1 X.2.1 (dck_at da_L_law_12 33 rfl) ?_
        refine lv_if_eq (tgt := 1684) X.1 X.2.1 (dck_at da_L_law_12 34 rfl) rfl (fun _ => ?_) (fun c => absurd ((lg_cmp_eq _ _).mpr rfl) c)
        exact next σ1 τ1 H hR PC PM hz hfr
      by_cases c21 : w = (21 : Int32)
      · obtain ⟨r, σ1, τ1, eC, eM, hR⟩ := hq.2.2.2.2.2.2.2.2.2.2.2.2.2.2.2.2.2.2.2.2.2.1 (xs (x3 + (1 : Int32)).toNatClampNeg) (xs (x3 + (2 : Int32)).toNatClampNeg)
        refine lv_tableIn (tgt := 851) (off := 818) X.1 X.2.1 (dck_at da_L_law 21 rfl) (by rw [c21]; decide) (by rw [c21]; decide) (by rw [c21]; rfl) rfl ?_
        refine lv_aload_n X.1 X.2.1 (dck_at da_L_law_12 37 rfl) rfl (lv_at hl 1 rfl) ?_
        refine lv_aload_n X.1 X.2.1 (dck_at da_L_law_12 38 rfl) rfl (lv_at hl 0 rfl) ?_
        refine lv_iload_n X.1 X.2.1 (dck_at da_L_law_12 39 rfl) rfl (lv_at hl 3 rfl) ?_
        refine lv_iconst X.1 X.2.1 (dck_at da_L_law_13 0 rfl) ki_1 ?_
        refine lv_iadd X.1 X.2.1 (dck_at da_L_law_13 1 rfl) ?_
        refine va_sld X.1 X.2.1 hX hbl hbA hSf h1 (dck_at da_L_law_13 2 rfl) ?_
        refine lv_aload_n X.1 X.2.1 (dck_at da_L_law_13 3 rfl) rfl (lv_at hl 0 rfl) ?_
        refine lv_iload_n X.1 X.2.1 (dck_at da_L_law_13 4 rfl) rfl (lv_at hl 3 rfl) ?_
        refine lv_iconst X.1 X.2.1 (dck_at da_L_law_13 5 rfl) ki_2 ?_
        refine lv_iadd X.1 X.2.1 (dck_at da_L_law_13 6 rfl) ?_
        refine va_sld X.1 X.2.1 hX hbl hbA hSf h2 (dck_at da_L_law_13 7 rfl) ?_
        refine lw_backi (lw_runV (as := [.int (xs (x3 + (1 : Int32)).toNatClampNeg), .int (xs (x3 + (2 : Int32)).toNatClampNeg)]) (rest := []) X FC PC hz hfr (ok_c_again eC) cv_RL_107 clC_0 ⟨Nat.le_of_ble_eq_true rfl, Nat.le_of_ble_eq_true rfl⟩ rfl hl.1 (Nat.le_of_ble_eq_true rfl) (dck_at da_L_law_13 8 rfl) ⟨Nat.le_of_ble_eq_true rfl, Nat.le_of_ble_eq_true rfl⟩) hnC PM rfl hapC hz hfr (fun H PC PM hz hfr => ?_)
        have hSf : va_S (fun q : Nat => s.heap.size ≤ q) s.heap H [] := ⟨hz, fun q h _ => hfr q h, fun _ h => by cases h⟩
        refine lv_aload_n X.1 X.2.1 (dck_at da_L_law_13 9 rfl) rfl (lv_at hl 2 rfl) ?_
        refine lv_aload_n X.1 X.2.1 (dck_at da_L_law_13 10 rfl) rfl (lv_at hl 0 rfl) ?_
        refine lv_iload_n X.1 X.2.1 (dck_at da_L_law_13 11 rfl) rfl (lv_at hl 3 rfl) ?_
        refine lv_iconst X.1 X.2.1 (dck_at da_L_law_13 12 rfl) ki_1 ?_
        refine lv_iadd X.1 X.2.1 (dck_at da_L_law_13 13 rfl) ?_
        refine va_sld X.1 X.2.1 hX hbl hbA hSf h1 (dck_at da_L_law_13 14 rfl) ?_
        refine lv_aload_n X.1 X.2.1 (dck_at da_L_law_13 15 rfl) rfl (lv_at hl 0 rfl) ?_
        refine lv_iload_n X.1 X.2.1 (dck_at da_L_law_13 16 rfl) rfl (lv_at hl 3 rfl) ?_
        refine lv_iconst X.1 X.2.1 (dck_at da_L_law_13 17 rfl) ki_2 ?_
        refine lv_iadd X.1 X.2.1 (dck_at da_L_law_13 18 rfl) ?_
        refine va_sld X.1 X.2.1 hX hbl hbA hSf h2 (dck_at da_L_law_13 19 rfl) ?_
        refine lw_backi (lw_runV (as := [.int (xs (x3 + (1 : Int32)).toNatClampNeg), .int (xs (x3 + (2 : Int32)).toNatClampNeg)]) (rest := [.int r]) X FM PM hz hfr (ok_m_again eM) cv_RL_110 clM_0 ⟨Nat.le_of_ble_eq_true rfl, Nat.le_of_ble_eq_true rfl⟩ rfl hl.1 (Nat.le_of_ble_eq_true rfl) (dck_at da_L_law_13 20 rfl) ⟨Nat.le_of_ble_eq_true rfl, Nat.le_of_ble_eq_true rfl⟩) hnM PC rfl hapM hz hfr (fun H PM PC hz hfr => ?_)
        have hSf : va_S (fun q : Nat => s.heap.size ≤ q) s.heap H [] := ⟨hz, fun q h _ => hfr q h, fun _ h => by cases h⟩
        refine lv_icmp_eq (tgt := 1684) X.1 X.2.1 (dck_at da_L_law_13 21 rfl) rfl (fun _ => ?_) (fun c => absurd rfl c)
        exact next σ1 τ1 H hR PC PM hz hfr
      by_cases c22 : w = (22 : Int32)
      · obtain ⟨r, σ1, τ1, eC, eM, hR⟩ := hq.2.2.2.2.2.2.2.2.2.2.2.2.2.2.2.2.2.2.2.2.2.2.1 (xs (x3 + (1 : Int32)).toNatClampNeg) (xs (x3 + (2 : Int32)).toNatClampNeg) (xs (x3 + (3 : Int32)).toNatClampNeg)
        refine lv_tableIn (tgt := 884) (off := 851) X.1 X.2.1 (dck_at da_L_law 21 rfl) (by rw [c22]; decide) (by rw [c22]; decide) (by rw [c22]; rfl) rfl ?_
        refine lv_aload_n X.1 X.2.1 (dck_at da_L_law_13 24 rfl) rfl (lv_at hl 1 rfl) ?_
        refine lv_aload_n X.1 X.2.1 (dck_at da_L_law_13 25 rfl) rfl (lv_at hl 0 rfl) ?_
        refine lv_iload_n X.1 X.2.1 (dck_at da_L_law_13 26 rfl) rfl (lv_at hl 3 rfl) ?_
        refine lv_iconst X.1 X.2.1 (dck_at da_L_law_13 27 rfl) ki_1 ?_
        refine lv_iadd X.1 X.2.1 (dck_at da_L_law_13 28 rfl) ?_
        refine va_sld X.1 X.2.1 hX hbl hbA hSf h1 (dck_at da_L_law_13 29 rfl) ?_
        refine lv_aload_n X.1 X.2.1 (dck_at da_L_law_13 30 rfl) rfl (lv_at hl 0 rfl) ?_
        refine lv_iload_n X.1 X.2.1 (dck_at da_L_law_13 31 rfl) rfl (lv_at hl 3 rfl) ?_
        refine lv_iconst X.1 X.2.1 (dck_at da_L_law_13 32 rfl) ki_2 ?_
        refine lv_iadd X.1 X.2.1 (dck_at da_L_law_13 33 rfl) ?_
        refine va_sld X.1 X.2.1 hX hbl hbA hSf h2 (dck_at da_L_law_13 34 rfl) ?_
        refine lv_aload_n X.1 X.2.1 (dck_at da_L_law_13 35 rfl) rfl (lv_at hl 0 rfl) ?_
        refine lv_iload_n X.1 X.2.1 (dck_at da_L_law_13 36 rfl) rfl (lv_at hl 3 rfl) ?_
        refine lv_iconst X.1 X.2.1 (dck_at da_L_law_13 37 rfl) ki_3 ?_
        refine lv_iadd X.1 X.2.1 (dck_at da_L_law_13 38 rfl) ?_
        refine va_sld X.1 X.2.1 hX hbl hbA hSf h3 (dck_at da_L_law_13 39 rfl) ?_
        refine lw_backi (lw_runV (as := [.int (xs (x3 + (1 : Int32)).toNatClampNeg), .int (xs (x3 + (2 : Int32)).toNatClampNeg), .int (xs (x3 + (3 : Int32)).toNatClampNeg)]) (rest := []) X FC PC hz hfr (ok_c_call eC) cv_RL_111 clC_0 ⟨Nat.le_of_ble_eq_true rfl, Nat.le_of_ble_eq_true rfl⟩ rfl hl.1 (Nat.le_of_ble_eq_true rfl) (dck_at da_L_law_14 0 rfl) ⟨Nat.le_of_ble_eq_true rfl, Nat.le_of_ble_eq_true rfl⟩) hnC PM rfl hapC hz hfr (fun H PC PM hz hfr => ?_)
        have hSf : va_S (fun q : Nat => s.heap.size ≤ q) s.heap H [] := ⟨hz, fun q h _ => hfr q h, fun _ h => by cases h⟩
        refine lv_aload_n X.1 X.2.1 (dck_at da_L_law_14 1 rfl) rfl (lv_at hl 2 rfl) ?_
        refine lv_aload_n X.1 X.2.1 (dck_at da_L_law_14 2 rfl) rfl (lv_at hl 0 rfl) ?_
        refine lv_iload_n X.1 X.2.1 (dck_at da_L_law_14 3 rfl) rfl (lv_at hl 3 rfl) ?_
        refine lv_iconst X.1 X.2.1 (dck_at da_L_law_14 4 rfl) ki_1 ?_
        refine lv_iadd X.1 X.2.1 (dck_at da_L_law_14 5 rfl) ?_
        refine va_sld X.1 X.2.1 hX hbl hbA hSf h1 (dck_at da_L_law_14 6 rfl) ?_
        refine lv_aload_n X.1 X.2.1 (dck_at da_L_law_14 7 rfl) rfl (lv_at hl 0 rfl) ?_
        refine lv_iload_n X.1 X.2.1 (dck_at da_L_law_14 8 rfl) rfl (lv_at hl 3 rfl) ?_
        refine lv_iconst X.1 X.2.1 (dck_at da_L_law_14 9 rfl) ki_2 ?_
        refine lv_iadd X.1 X.2.1 (dck_at da_L_law_14 10 rfl) ?_
        refine va_sld X.1 X.2.1 hX hbl hbA hSf h2 (dck_at da_L_law_14 11 rfl) ?_
        refine lv_aload_n X.1 X.2.1 (dck_at da_L_law_14 12 rfl) rfl (lv_at hl 0 rfl) ?_
        refine lv_iload_n X.1 X.2.1 (dck_at da_L_law_14 13 rfl) rfl (lv_at hl 3 rfl) ?_
        refine lv_iconst X.1 X.2.1 (dck_at da_L_law_14 14 rfl) ki_3 ?_
        refine lv_iadd X.1 X.2.1 (dck_at da_L_law_14 15 rfl) ?_
        refine va_sld X.1 X.2.1 hX hbl hbA hSf h3 (dck_at da_L_law_14 16 rfl) ?_
        refine lw_backi (lw_runV (as := [.int (xs (x3 + (1 : Int32)).toNatClampNeg), .int (xs (x3 + (2 : Int32)).toNatClampNeg), .int (xs (x3 + (3 : Int32)).toNatClampNeg)]) (rest := [.int r]) X FM PM hz hfr (ok_m_call eM) cv_RL_114 clM_0 ⟨Nat.le_of_ble_eq_true rfl, Nat.le_of_ble_eq_true rfl⟩ rfl hl.1 (Nat.le_of_ble_eq_true rfl) (dck_at da_L_law_14 17 rfl) ⟨Nat.le_of_ble_eq_true rfl, Nat.le_of_ble_eq_true rfl⟩) hnM PC rfl hapM hz hfr (fun H PM PC hz hfr => ?_)
        have hSf : va_S (fun q : Nat => s.heap.size ≤ q) s.heap H [] := ⟨hz, fun q h _ => hfr q h, fun _ h => by cases h⟩
        refine lv_icmp_eq (tgt := 1684) X.1 X.2.1 (dck_at da_L_law_14 18 rfl) rfl (fun _ => ?_) (fun c => absurd rfl c)
        exact next σ1 τ1 H hR PC PM hz hfr
      by_cases c23 : w = (23 : Int32)
      · obtain ⟨r, σ1, τ1, eC, eM, hR⟩ := hq.2.2.2.2.2.2.2.2.2.2.2.2.2.2.2.2.2.2.2.2.2.2.2.1 (xs (x3 + (1 : Int32)).toNatClampNeg) (xs (x3 + (2 : Int32)).toNatClampNeg) (xs (x3 + (3 : Int32)).toNatClampNeg) (xs (x3 + (4 : Int32)).toNatClampNeg)
        refine lv_tableIn (tgt := 927) (off := 894) X.1 X.2.1 (dck_at da_L_law 21 rfl) (by rw [c23]; decide) (by rw [c23]; decide) (by rw [c23]; rfl) rfl ?_
        refine lv_aload_n X.1 X.2.1 (dck_at da_L_law_14 21 rfl) rfl (lv_at hl 1 rfl) ?_
        refine lv_aload_n X.1 X.2.1 (dck_at da_L_law_14 22 rfl) rfl (lv_at hl 0 rfl) ?_
        refine lv_iload_n X.1 X.2.1 (dck_at da_L_law_14 23 rfl) rfl (lv_at hl 3 rfl) ?_
        refine lv_iconst X.1 X.2.1 (dck_at da_L_law_14 24 rfl) ki_1 ?_
        refine lv_iadd X.1 X.2.1 (dck_at da_L_law_14 25 rfl) ?_
        refine va_sld X.1 X.2.1 hX hbl hbA hSf h1 (dck_at da_L_law_14 26 rfl) ?_
        refine lv_aload_n X.1 X.2.1 (dck_at da_L_law_14 27 rfl) rfl (lv_at hl 0 rfl) ?_
        refine lv_iload_n X.1 X.2.1 (dck_at da_L_law_14 28 rfl) rfl (lv_at hl 3 rfl) ?_
        refine lv_iconst X.1 X.2.1 (dck_at da_L_law_14 29 rfl) ki_2 ?_
        refine lv_iadd X.1 X.2.1 (dck_at da_L_law_14 30 rfl) ?_
        refine va_sld X.1 X.2.1 hX hbl hbA hSf h2 (dck_at da_L_law_14 31 rfl) ?_
        refine lv_aload_n X.1 X.2.1 (dck_at da_L_law_14 32 rfl) rfl (lv_at hl 0 rfl) ?_
        refine lv_iload_n X.1 X.2.1 (dck_at da_L_law_14 33 rfl) rfl (lv_at hl 3 rfl) ?_
        refine lv_iconst X.1 X.2.1 (dck_at da_L_law_14 34 rfl) ki_3 ?_
        refine lv_iadd X.1 X.2.1 (dck_at da_L_law_14 35 rfl) ?_
        refine va_sld X.1 X.2.1 hX hbl hbA hSf h3 (dck_at da_L_law_14 36 rfl) ?_
        refine lv_aload_n X.1 X.2.1 (dck_at da_L_law_14 37 rfl) rfl (lv_at hl 0 rfl) ?_
        refine lv_iload_n X.1 X.2.1 (dck_at da_L_law_14 38 rfl) rfl (lv_at hl 3 rfl) ?_
        refine lv_iconst X.1 X.2.1 (dck_at da_L_law_14 39 rfl) ki_4 ?_
        refine lv_iadd X.1 X.2.1 (dck_at da_L_law_15 0 rfl) ?_
        refine va_sld X.1 X.2.1 hX hbl hbA hSf h4 (dck_at da_L_law_15 1 rfl) ?_
        refine lw_backl (lw_runV (as := [.int (xs (x3 + (1 : Int32)).toNatClampNeg), .int (xs (x3 + (2 : Int32)).toNatClampNeg), .int (xs (x3 + (3 : Int32)).toNatClampNeg), .int (xs (x3 + (4 : Int32)).toNatClampNeg)]) (rest := []) X FC PC hz hfr (ok_c_truly eC) cv_RL_115 clC_0 ⟨Nat.le_of_ble_eq_true rfl, Nat.le_of_ble_eq_true rfl⟩ rfl hl.1 (Nat.le_of_ble_eq_true rfl) (dck_at da_L_law_15 2 rfl) ⟨Nat.le_of_ble_eq_true rfl, Nat.le_of_ble_eq_true rfl⟩) hnC PM rfl hapC hz hfr (fun H PC PM hz hfr => ?_)
        have hSf : va_S (fun q : Nat => s.heap.size ≤ q) s.heap H [] := ⟨hz, fun q h _ => hfr q h, fun _ h => by cases h⟩
        refine lv_aload_n X.1 X.2.1 (dck_at da_L_law_15 3 rfl) rfl (lv_at hl 2 rfl) ?_
        refine lv_aload_n X.1 X.2.1 (dck_at da_L_law_15 4 rfl) rfl (lv_at hl 0 rfl) ?_
        refine lv_iload_n X.1 X.2.1 (dck_at da_L_law_15 5 rfl) rfl (lv_at hl 3 rfl) ?_
        refine lv_iconst X.1 X.2.1 (dck_at da_L_law_15 6 rfl) ki_1 ?_
        refine lv_iadd X.1 X.2.1 (dck_at da_L_law_15 7 rfl) ?_
        refine va_sld X.1 X.2.1 hX hbl hbA hSf h1 (dck_at da_L_law_15 8 rfl) ?_
        refine lv_aload_n X.1 X.2.1 (dck_at da_L_law_15 9 rfl) rfl (lv_at hl 0 rfl) ?_
        refine lv_iload_n X.1 X.2.1 (dck_at da_L_law_15 10 rfl) rfl (lv_at hl 3 rfl) ?_
        refine lv_iconst X.1 X.2.1 (dck_at da_L_law_15 11 rfl) ki_2 ?_
        refine lv_iadd X.1 X.2.1 (dck_at da_L_law_15 12 rfl) ?_
        refine va_sld X.1 X.2.1 hX hbl hbA hSf h2 (dck_at da_L_law_15 13 rfl) ?_
        refine lv_aload_n X.1 X.2.1 (dck_at da_L_law_15 14 rfl) rfl (lv_at hl 0 rfl) ?_
        refine lv_iload_n X.1 X.2.1 (dck_at da_L_law_15 15 rfl) rfl (lv_at hl 3 rfl) ?_
        refine lv_iconst X.1 X.2.1 (dck_at da_L_law_15 16 rfl) ki_3 ?_
        refine lv_iadd X.1 X.2.1 (dck_at da_L_law_15 17 rfl) ?_
        refine va_sld X.1 X.2.1 hX hbl hbA hSf h3 (dck_at da_L_law_15 18 rfl) ?_
        refine lv_aload_n X.1 X.2.1 (dck_at da_L_law_15 19 rfl) rfl (lv_at hl 0 rfl) ?_
        refine lv_iload_n X.1 X.2.1 (dck_at da_L_law_15 20 rfl) rfl (lv_at hl 3 rfl) ?_
        refine lv_iconst X.1 X.2.1 (dck_at da_L_law_15 21 rfl) ki_4 ?_
        refine lv_iadd X.1 X.2.1 (dck_at da_L_law_15 22 rfl) ?_
        refine va_sld X.1 X.2.1 hX hbl hbA hSf h4 (dck_at da_L_law_15 23 rfl) ?_
        refine lw_backl (lw_runV (as := [.int (xs (x3 + (1 : Int32)).toNatClampNeg), .int (xs (x3 + (2 : Int32)).toNatClampNeg), .int (xs (x3 + (3 : Int32)).toNatClampNeg), .int (xs (x3 + (4 : Int32)).toNatClampNeg)]) (rest := [.long r]) X FM PM hz hfr (ok_m_truly eM) cv_RL_119 clM_0 ⟨Nat.le_of_ble_eq_true rfl, Nat.le_of_ble_eq_true rfl⟩ rfl hl.1 (Nat.le_of_ble_eq_true rfl) (dck_at da_L_law_15 24 rfl) ⟨Nat.le_of_ble_eq_true rfl, Nat.le_of_ble_eq_true rfl⟩) hnM PC rfl hapM hz hfr (fun H PM PC hz hfr => ?_)
        have hSf : va_S (fun q : Nat => s.heap.size ≤ q) s.heap H [] := ⟨hz, fun q h _ => hfr q h, fun _ h => by cases h⟩
        refine W.lcmp X.1 X.2.1 (dck_at da_L_law_15 25 rfl) ?_
        refine lv_if_eq (tgt := 1684) X.1 X.2.1 (dck_at da_L_law_15 26 rfl) rfl (fun _ => ?_) (fun c => absurd ((lg_cmp_eq _ _).mpr rfl) c)
        exact next σ1 τ1 H hR PC PM hz hfr
      by_cases c24 : w = (24 : Int32)
      · obtain ⟨r, σ1, τ1, eC, eM, hR⟩ := hq.2.2.2.2.2.2.2.2.2.2.2.2.2.2.2.2.2.2.2.2.2.2.2.2.1 (xs (x3 + (1 : Int32)).toNatClampNeg) (xs (x3 + (2 : Int32)).toNatClampNeg) (xs (x3 + (3 : Int32)).toNatClampNeg)
        refine lv_tableIn (tgt := 981) (off := 948) X.1 X.2.1 (dck_at da_L_law 21 rfl) (by rw [c24]; decide) (by rw [c24]; decide) (by rw [c24]; rfl) rfl ?_
        refine lv_aload_n X.1 X.2.1 (dck_at da_L_law_15 29 rfl) rfl (lv_at hl 1 rfl) ?_
        refine lv_aload_n X.1 X.2.1 (dck_at da_L_law_15 30 rfl) rfl (lv_at hl 0 rfl) ?_
        refine lv_iload_n X.1 X.2.1 (dck_at da_L_law_15 31 rfl) rfl (lv_at hl 3 rfl) ?_
        refine lv_iconst X.1 X.2.1 (dck_at da_L_law_15 32 rfl) ki_1 ?_
        refine lv_iadd X.1 X.2.1 (dck_at da_L_law_15 33 rfl) ?_
        refine va_sld X.1 X.2.1 hX hbl hbA hSf h1 (dck_at da_L_law_15 34 rfl) ?_
        refine lv_aload_n X.1 X.2.1 (dck_at da_L_law_15 35 rfl) rfl (lv_at hl 0 rfl) ?_
        refine lv_iload_n X.1 X.2.1 (dck_at da_L_law_15 36 rfl) rfl (lv_at hl 3 rfl) ?_
        refine lv_iconst X.1 X.2.1 (dck_at da_L_law_15 37 rfl) ki_2 ?_
        refine lv_iadd X.1 X.2.1 (dck_at da_L_law_15 38 rfl) ?_
        refine va_sld X.1 X.2.1 hX hbl hbA hSf h2 (dck_at da_L_law_15 39 rfl) ?_
        refine lv_aload_n X.1 X.2.1 (dck_at da_L_law_16 0 rfl) rfl (lv_at hl 0 rfl) ?_
        refine lv_iload_n X.1 X.2.1 (dck_at da_L_law_16 1 rfl) rfl (lv_at hl 3 rfl) ?_
        refine lv_iconst X.1 X.2.1 (dck_at da_L_law_16 2 rfl) ki_3 ?_
        refine lv_iadd X.1 X.2.1 (dck_at da_L_law_16 3 rfl) ?_
        refine va_sld X.1 X.2.1 hX hbl hbA hSf h3 (dck_at da_L_law_16 4 rfl) ?_
        refine lw_backi (lw_runV (as := [.int (xs (x3 + (1 : Int32)).toNatClampNeg), .int (xs (x3 + (2 : Int32)).toNatClampNeg), .int (xs (x3 + (3 : Int32)).toNatClampNeg)]) (rest := []) X FC PC hz hfr (ok_c_job eC) cv_RL_120 clC_0 ⟨Nat.le_of_ble_eq_true rfl, Nat.le_of_ble_eq_true rfl⟩ rfl hl.1 (Nat.le_of_ble_eq_true rfl) (dck_at da_L_law_16 5 rfl) ⟨Nat.le_of_ble_eq_true rfl, Nat.le_of_ble_eq_true rfl⟩) hnC PM rfl hapC hz hfr (fun H PC PM hz hfr => ?_)
        have hSf : va_S (fun q : Nat => s.heap.size ≤ q) s.heap H [] := ⟨hz, fun q h _ => hfr q h, fun _ h => by cases h⟩
        refine lv_aload_n X.1 X.2.1 (dck_at da_L_law_16 6 rfl) rfl (lv_at hl 2 rfl) ?_
        refine lv_aload_n X.1 X.2.1 (dck_at da_L_law_16 7 rfl) rfl (lv_at hl 0 rfl) ?_
        refine lv_iload_n X.1 X.2.1 (dck_at da_L_law_16 8 rfl) rfl (lv_at hl 3 rfl) ?_
        refine lv_iconst X.1 X.2.1 (dck_at da_L_law_16 9 rfl) ki_1 ?_
        refine lv_iadd X.1 X.2.1 (dck_at da_L_law_16 10 rfl) ?_
        refine va_sld X.1 X.2.1 hX hbl hbA hSf h1 (dck_at da_L_law_16 11 rfl) ?_
        refine lv_aload_n X.1 X.2.1 (dck_at da_L_law_16 12 rfl) rfl (lv_at hl 0 rfl) ?_
        refine lv_iload_n X.1 X.2.1 (dck_at da_L_law_16 13 rfl) rfl (lv_at hl 3 rfl) ?_
        refine lv_iconst X.1 X.2.1 (dck_at da_L_law_16 14 rfl) ki_2 ?_
        refine lv_iadd X.1 X.2.1 (dck_at da_L_law_16 15 rfl) ?_
        refine va_sld X.1 X.2.1 hX hbl hbA hSf h2 (dck_at da_L_law_16 16 rfl) ?_
        refine lv_aload_n X.1 X.2.1 (dck_at da_L_law_16 17 rfl) rfl (lv_at hl 0 rfl) ?_
        refine lv_iload_n X.1 X.2.1 (dck_at da_L_law_16 18 rfl) rfl (lv_at hl 3 rfl) ?_
        refine lv_iconst X.1 X.2.1 (dck_at da_L_law_16 19 rfl) ki_3 ?_
        refine lv_iadd X.1 X.2.1 (dck_at da_L_law_16 20 rfl) ?_
        refine va_sld X.1 X.2.1 hX hbl hbA hSf h3 (dck_at da_L_law_16 21 rfl) ?_
        refine lw_backi (lw_runV (as := [.int (xs (x3 + (1 : Int32)).toNatClampNeg), .int (xs (x3 + (2 : Int32)).toNatClampNeg), .int (xs (x3 + (3 : Int32)).toNatClampNeg)]) (rest := [.int r]) X FM PM hz hfr (ok_m_job eM) cv_RL_123 clM_0 ⟨Nat.le_of_ble_eq_true rfl, Nat.le_of_ble_eq_true rfl⟩ rfl hl.1 (Nat.le_of_ble_eq_true rfl) (dck_at da_L_law_16 22 rfl) ⟨Nat.le_of_ble_eq_true rfl, Nat.le_of_ble_eq_true rfl⟩) hnM PC rfl hapM hz hfr (fun H PM PC hz hfr => ?_)
        have hSf : va_S (fun q : Nat => s.heap.size ≤ q) s.heap H [] := ⟨hz, fun q h _ => hfr q h, fun _ h => by cases h⟩
        refine lv_icmp_eq (tgt := 1684) X.1 X.2.1 (dck_at da_L_law_16 23 rfl) rfl (fun _ => ?_) (fun c => absurd rfl c)
        exact next σ1 τ1 H hR PC PM hz hfr
      by_cases c25 : w = (25 : Int32)
      · obtain ⟨r, σ1, τ1, eC, eM, hR⟩ := hq.2.2.2.2.2.2.2.2.2.2.2.2.2.2.2.2.2.2.2.2.2.2.2.2.2.1 (xs (x3 + (1 : Int32)).toNatClampNeg)
        refine lv_tableIn (tgt := 1024) (off := 991) X.1 X.2.1 (dck_at da_L_law 21 rfl) (by rw [c25]; decide) (by rw [c25]; decide) (by rw [c25]; rfl) rfl ?_
        refine lv_aload_n X.1 X.2.1 (dck_at da_L_law_16 26 rfl) rfl (lv_at hl 1 rfl) ?_
        refine lv_aload_n X.1 X.2.1 (dck_at da_L_law_16 27 rfl) rfl (lv_at hl 0 rfl) ?_
        refine lv_iload_n X.1 X.2.1 (dck_at da_L_law_16 28 rfl) rfl (lv_at hl 3 rfl) ?_
        refine lv_iconst X.1 X.2.1 (dck_at da_L_law_16 29 rfl) ki_1 ?_
        refine lv_iadd X.1 X.2.1 (dck_at da_L_law_16 30 rfl) ?_
        refine va_sld X.1 X.2.1 hX hbl hbA hSf h1 (dck_at da_L_law_16 31 rfl) ?_
        refine lw_backl (lw_runV (as := [.int (xs (x3 + (1 : Int32)).toNatClampNeg)]) (rest := []) X FC PC hz hfr (ok_c_order eC) cv_RL_124 clC_0 ⟨Nat.le_of_ble_eq_true rfl, Nat.le_of_ble_eq_true rfl⟩ rfl hl.1 (Nat.le_of_ble_eq_true rfl) (dck_at da_L_law_16 32 rfl) ⟨Nat.le_of_ble_eq_true rfl, Nat.le_of_ble_eq_true rfl⟩) hnC PM rfl hapC hz hfr (fun H PC PM hz hfr => ?_)
        have hSf : va_S (fun q : Nat => s.heap.size ≤ q) s.heap H [] := ⟨hz, fun q h _ => hfr q h, fun _ h => by cases h⟩
        refine lv_aload_n X.1 X.2.1 (dck_at da_L_law_16 33 rfl) rfl (lv_at hl 2 rfl) ?_
        refine lv_aload_n X.1 X.2.1 (dck_at da_L_law_16 34 rfl) rfl (lv_at hl 0 rfl) ?_
        refine lv_iload_n X.1 X.2.1 (dck_at da_L_law_16 35 rfl) rfl (lv_at hl 3 rfl) ?_
        refine lv_iconst X.1 X.2.1 (dck_at da_L_law_16 36 rfl) ki_1 ?_
        refine lv_iadd X.1 X.2.1 (dck_at da_L_law_16 37 rfl) ?_
        refine va_sld X.1 X.2.1 hX hbl hbA hSf h1 (dck_at da_L_law_16 38 rfl) ?_
        refine lw_backl (lw_runV (as := [.int (xs (x3 + (1 : Int32)).toNatClampNeg)]) (rest := [.long r]) X FM PM hz hfr (ok_m_order eM) cv_RL_127 clM_0 ⟨Nat.le_of_ble_eq_true rfl, Nat.le_of_ble_eq_true rfl⟩ rfl hl.1 (Nat.le_of_ble_eq_true rfl) (dck_at da_L_law_16 39 rfl) ⟨Nat.le_of_ble_eq_true rfl, Nat.le_of_ble_eq_true rfl⟩) hnM PC rfl hapM hz hfr (fun H PM PC hz hfr => ?_)
        have hSf : va_S (fun q : Nat => s.heap.size ≤ q) s.heap H [] := ⟨hz, fun q h _ => hfr q h, fun _ h => by cases h⟩
        refine W.lcmp X.1 X.2.1 (dck_at da_L_law_17 0 rfl) ?_
        refine lv_if_eq (tgt := 1684) X.1 X.2.1 (dck_at da_L_law_17 1 rfl) rfl (fun _ => ?_) (fun c => absurd ((lg_cmp_eq _ _).mpr rfl) c)
        exact next σ1 τ1 H hR PC PM hz hfr
      by_cases c26 : w = (26 : Int32)
      · obtain ⟨r, σ1, τ1, eC, eM, hR⟩ := hq.2.2.2.2.2.2.2.2.2.2.2.2.2.2.2.2.2.2.2.2.2.2.2.2.2.2.1 (xs (x3 + (1 : Int32)).toNatClampNeg) (xs (x3 + (2 : Int32)).toNatClampNeg) (xs (x3 + (3 : Int32)).toNatClampNeg)
        refine lv_tableIn (tgt := 1048) (off := 1015) X.1 X.2.1 (dck_at da_L_law 21 rfl) (by rw [c26]; decide) (by rw [c26]; decide) (by rw [c26]; rfl) rfl ?_
        refine lv_aload_n X.1 X.2.1 (dck_at da_L_law_17 4 rfl) rfl (lv_at hl 1 rfl) ?_
        refine lv_aload_n X.1 X.2.1 (dck_at da_L_law_17 5 rfl) rfl (lv_at hl 0 rfl) ?_
        refine lv_iload_n X.1 X.2.1 (dck_at da_L_law_17 6 rfl) rfl (lv_at hl 3 rfl) ?_
        refine lv_iconst X.1 X.2.1 (dck_at da_L_law_17 7 rfl) ki_1 ?_
        refine lv_iadd X.1 X.2.1 (dck_at da_L_law_17 8 rfl) ?_
        refine va_sld X.1 X.2.1 hX hbl hbA hSf h1 (dck_at da_L_law_17 9 rfl) ?_
        refine lv_aload_n X.1 X.2.1 (dck_at da_L_law_17 10 rfl) rfl (lv_at hl 0 rfl) ?_
        refine lv_iload_n X.1 X.2.1 (dck_at da_L_law_17 11 rfl) rfl (lv_at hl 3 rfl) ?_
        refine lv_iconst X.1 X.2.1 (dck_at da_L_law_17 12 rfl) ki_2 ?_
        refine lv_iadd X.1 X.2.1 (dck_at da_L_law_17 13 rfl) ?_
        refine va_sld X.1 X.2.1 hX hbl hbA hSf h2 (dck_at da_L_law_17 14 rfl) ?_
        refine lv_aload_n X.1 X.2.1 (dck_at da_L_law_17 15 rfl) rfl (lv_at hl 0 rfl) ?_
        refine lv_iload_n X.1 X.2.1 (dck_at da_L_law_17 16 rfl) rfl (lv_at hl 3 rfl) ?_
        refine lv_iconst X.1 X.2.1 (dck_at da_L_law_17 17 rfl) ki_3 ?_
        refine lv_iadd X.1 X.2.1 (dck_at da_L_law_17 18 rfl) ?_
        refine va_sld X.1 X.2.1 hX hbl hbA hSf h3 (dck_at da_L_law_17 19 rfl) ?_
        refine lw_backi (lw_runV (as := [.int (xs (x3 + (1 : Int32)).toNatClampNeg), .int (xs (x3 + (2 : Int32)).toNatClampNeg), .int (xs (x3 + (3 : Int32)).toNatClampNeg)]) (rest := []) X FC PC hz hfr (ok_c_found eC) cv_RL_128 clC_0 ⟨Nat.le_of_ble_eq_true rfl, Nat.le_of_ble_eq_true rfl⟩ rfl hl.1 (Nat.le_of_ble_eq_true rfl) (dck_at da_L_law_17 20 rfl) ⟨Nat.le_of_ble_eq_true rfl, Nat.le_of_ble_eq_true rfl⟩) hnC PM rfl hapC hz hfr (fun H PC PM hz hfr => ?_)
        have hSf : va_S (fun q : Nat => s.heap.size ≤ q) s.heap H [] := ⟨hz, fun q h _ => hfr q h, fun _ h => by cases h⟩
        refine lv_aload_n X.1 X.2.1 (dck_at da_L_law_17 21 rfl) rfl (lv_at hl 2 rfl) ?_
        refine lv_aload_n X.1 X.2.1 (dck_at da_L_law_17 22 rfl) rfl (lv_at hl 0 rfl) ?_
        refine lv_iload_n X.1 X.2.1 (dck_at da_L_law_17 23 rfl) rfl (lv_at hl 3 rfl) ?_
        refine lv_iconst X.1 X.2.1 (dck_at da_L_law_17 24 rfl) ki_1 ?_
        refine lv_iadd X.1 X.2.1 (dck_at da_L_law_17 25 rfl) ?_
        refine va_sld X.1 X.2.1 hX hbl hbA hSf h1 (dck_at da_L_law_17 26 rfl) ?_
        refine lv_aload_n X.1 X.2.1 (dck_at da_L_law_17 27 rfl) rfl (lv_at hl 0 rfl) ?_
        refine lv_iload_n X.1 X.2.1 (dck_at da_L_law_17 28 rfl) rfl (lv_at hl 3 rfl) ?_
        refine lv_iconst X.1 X.2.1 (dck_at da_L_law_17 29 rfl) ki_2 ?_
        refine lv_iadd X.1 X.2.1 (dck_at da_L_law_17 30 rfl) ?_
        refine va_sld X.1 X.2.1 hX hbl hbA hSf h2 (dck_at da_L_law_17 31 rfl) ?_
        refine lv_aload_n X.1 X.2.1 (dck_at da_L_law_17 32 rfl) rfl (lv_at hl 0 rfl) ?_
        refine lv_iload_n X.1 X.2.1 (dck_at da_L_law_17 33 rfl) rfl (lv_at hl 3 rfl) ?_
        refine lv_iconst X.1 X.2.1 (dck_at da_L_law_17 34 rfl) ki_3 ?_
        refine lv_iadd X.1 X.2.1 (dck_at da_L_law_17 35 rfl) ?_
        refine va_sld X.1 X.2.1 hX hbl hbA hSf h3 (dck_at da_L_law_17 36 rfl) ?_
        refine lw_backi (lw_runV (as := [.int (xs (x3 + (1 : Int32)).toNatClampNeg), .int (xs (x3 + (2 : Int32)).toNatClampNeg), .int (xs (x3 + (3 : Int32)).toNatClampNeg)]) (rest := [.int r]) X FM PM hz hfr (ok_m_found eM) cv_RL_131 clM_0 ⟨Nat.le_of_ble_eq_true rfl, Nat.le_of_ble_eq_true rfl⟩ rfl hl.1 (Nat.le_of_ble_eq_true rfl) (dck_at da_L_law_17 37 rfl) ⟨Nat.le_of_ble_eq_true rfl, Nat.le_of_ble_eq_true rfl⟩) hnM PC rfl hapM hz hfr (fun H PM PC hz hfr => ?_)
        have hSf : va_S (fun q : Nat => s.heap.size ≤ q) s.heap H [] := ⟨hz, fun q h _ => hfr q h, fun _ h => by cases h⟩
        refine lv_icmp_eq (tgt := 1684) X.1 X.2.1 (dck_at da_L_law_17 38 rfl) rfl (fun _ => ?_) (fun c => absurd rfl c)
        exact next σ1 τ1 H hR PC PM hz hfr
      by_cases c27 : w = (27 : Int32)
      · obtain ⟨r, σ1, τ1, eC, eM, hR⟩ := hq.2.2.2.2.2.2.2.2.2.2.2.2.2.2.2.2.2.2.2.2.2.2.2.2.2.2.2.1 (xs (x3 + (1 : Int32)).toNatClampNeg) (xs (x3 + (2 : Int32)).toNatClampNeg)
        refine lv_tableIn (tgt := 1091) (off := 1058) X.1 X.2.1 (dck_at da_L_law 21 rfl) (by rw [c27]; decide) (by rw [c27]; decide) (by rw [c27]; rfl) rfl ?_
        refine lv_aload_n X.1 X.2.1 (dck_at da_L_law_18 1 rfl) rfl (lv_at hl 1 rfl) ?_
        refine lv_aload_n X.1 X.2.1 (dck_at da_L_law_18 2 rfl) rfl (lv_at hl 0 rfl) ?_
        refine lv_iload_n X.1 X.2.1 (dck_at da_L_law_18 3 rfl) rfl (lv_at hl 3 rfl) ?_
        refine lv_iconst X.1 X.2.1 (dck_at da_L_law_18 4 rfl) ki_1 ?_
        refine lv_iadd X.1 X.2.1 (dck_at da_L_law_18 5 rfl) ?_
        refine va_sld X.1 X.2.1 hX hbl hbA hSf h1 (dck_at da_L_law_18 6 rfl) ?_
        refine lv_aload_n X.1 X.2.1 (dck_at da_L_law_18 7 rfl) rfl (lv_at hl 0 rfl) ?_
        refine lv_iload_n X.1 X.2.1 (dck_at da_L_law_18 8 rfl) rfl (lv_at hl 3 rfl) ?_
        refine lv_iconst X.1 X.2.1 (dck_at da_L_law_18 9 rfl) ki_2 ?_
        refine lv_iadd X.1 X.2.1 (dck_at da_L_law_18 10 rfl) ?_
        refine va_sld X.1 X.2.1 hX hbl hbA hSf h2 (dck_at da_L_law_18 11 rfl) ?_
        refine lw_backi (lw_runV (as := [.int (xs (x3 + (1 : Int32)).toNatClampNeg), .int (xs (x3 + (2 : Int32)).toNatClampNeg)]) (rest := []) X FC PC hz hfr (ok_c_share eC) cv_RL_132 clC_0 ⟨Nat.le_of_ble_eq_true rfl, Nat.le_of_ble_eq_true rfl⟩ rfl hl.1 (Nat.le_of_ble_eq_true rfl) (dck_at da_L_law_18 12 rfl) ⟨Nat.le_of_ble_eq_true rfl, Nat.le_of_ble_eq_true rfl⟩) hnC PM rfl hapC hz hfr (fun H PC PM hz hfr => ?_)
        have hSf : va_S (fun q : Nat => s.heap.size ≤ q) s.heap H [] := ⟨hz, fun q h _ => hfr q h, fun _ h => by cases h⟩
        refine lv_aload_n X.1 X.2.1 (dck_at da_L_law_18 13 rfl) rfl (lv_at hl 2 rfl) ?_
        refine lv_aload_n X.1 X.2.1 (dck_at da_L_law_18 14 rfl) rfl (lv_at hl 0 rfl) ?_
        refine lv_iload_n X.1 X.2.1 (dck_at da_L_law_18 15 rfl) rfl (lv_at hl 3 rfl) ?_
        refine lv_iconst X.1 X.2.1 (dck_at da_L_law_18 16 rfl) ki_1 ?_
        refine lv_iadd X.1 X.2.1 (dck_at da_L_law_18 17 rfl) ?_
        refine va_sld X.1 X.2.1 hX hbl hbA hSf h1 (dck_at da_L_law_18 18 rfl) ?_
        refine lv_aload_n X.1 X.2.1 (dck_at da_L_law_18 19 rfl) rfl (lv_at hl 0 rfl) ?_
        refine lv_iload_n X.1 X.2.1 (dck_at da_L_law_18 20 rfl) rfl (lv_at hl 3 rfl) ?_
        refine lv_iconst X.1 X.2.1 (dck_at da_L_law_18 21 rfl) ki_2 ?_
        refine lv_iadd X.1 X.2.1 (dck_at da_L_law_18 22 rfl) ?_
        refine va_sld X.1 X.2.1 hX hbl hbA hSf h2 (dck_at da_L_law_18 23 rfl) ?_
        refine lw_backi (lw_runV (as := [.int (xs (x3 + (1 : Int32)).toNatClampNeg), .int (xs (x3 + (2 : Int32)).toNatClampNeg)]) (rest := [.int r]) X FM PM hz hfr (ok_m_share eM) cv_RL_135 clM_0 ⟨Nat.le_of_ble_eq_true rfl, Nat.le_of_ble_eq_true rfl⟩ rfl hl.1 (Nat.le_of_ble_eq_true rfl) (dck_at da_L_law_18 24 rfl) ⟨Nat.le_of_ble_eq_true rfl, Nat.le_of_ble_eq_true rfl⟩) hnM PC rfl hapM hz hfr (fun H PM PC hz hfr => ?_)
        have hSf : va_S (fun q : Nat => s.heap.size ≤ q) s.heap H [] := ⟨hz, fun q h _ => hfr q h, fun _ h => by cases h⟩
        refine lv_icmp_eq (tgt := 1684) X.1 X.2.1 (dck_at da_L_law_18 25 rfl) rfl (fun _ => ?_) (fun c => absurd rfl c)
        exact next σ1 τ1 H hR PC PM hz hfr
      by_cases c28 : w = (28 : Int32)
      · obtain ⟨r, σ1, τ1, eC, eM, hR⟩ := hq.2.2.2.2.2.2.2.2.2.2.2.2.2.2.2.2.2.2.2.2.2.2.2.2.2.2.2.2.1 (xs (x3 + (1 : Int32)).toNatClampNeg) (xs (x3 + (2 : Int32)).toNatClampNeg)
        refine lv_tableIn (tgt := 1124) (off := 1091) X.1 X.2.1 (dck_at da_L_law 21 rfl) (by rw [c28]; decide) (by rw [c28]; decide) (by rw [c28]; rfl) rfl ?_
        refine lv_aload_n X.1 X.2.1 (dck_at da_L_law_18 28 rfl) rfl (lv_at hl 1 rfl) ?_
        refine lv_aload_n X.1 X.2.1 (dck_at da_L_law_18 29 rfl) rfl (lv_at hl 0 rfl) ?_
        refine lv_iload_n X.1 X.2.1 (dck_at da_L_law_18 30 rfl) rfl (lv_at hl 3 rfl) ?_
        refine lv_iconst X.1 X.2.1 (dck_at da_L_law_18 31 rfl) ki_1 ?_
        refine lv_iadd X.1 X.2.1 (dck_at da_L_law_18 32 rfl) ?_
        refine va_sld X.1 X.2.1 hX hbl hbA hSf h1 (dck_at da_L_law_18 33 rfl) ?_
        refine lv_aload_n X.1 X.2.1 (dck_at da_L_law_18 34 rfl) rfl (lv_at hl 0 rfl) ?_
        refine lv_iload_n X.1 X.2.1 (dck_at da_L_law_18 35 rfl) rfl (lv_at hl 3 rfl) ?_
        refine lv_iconst X.1 X.2.1 (dck_at da_L_law_18 36 rfl) ki_2 ?_
        refine lv_iadd X.1 X.2.1 (dck_at da_L_law_18 37 rfl) ?_
        refine va_sld X.1 X.2.1 hX hbl hbA hSf h2 (dck_at da_L_law_18 38 rfl) ?_
        refine lw_backi (lw_runV (as := [.int (xs (x3 + (1 : Int32)).toNatClampNeg), .int (xs (x3 + (2 : Int32)).toNatClampNeg)]) (rest := []) X FC PC hz hfr (ok_c_span eC) cv_RL_136 clC_0 ⟨Nat.le_of_ble_eq_true rfl, Nat.le_of_ble_eq_true rfl⟩ rfl hl.1 (Nat.le_of_ble_eq_true rfl) (dck_at da_L_law_18 39 rfl) ⟨Nat.le_of_ble_eq_true rfl, Nat.le_of_ble_eq_true rfl⟩) hnC PM rfl hapC hz hfr (fun H PC PM hz hfr => ?_)
        have hSf : va_S (fun q : Nat => s.heap.size ≤ q) s.heap H [] := ⟨hz, fun q h _ => hfr q h, fun _ h => by cases h⟩
        refine lv_aload_n X.1 X.2.1 (dck_at da_L_law_19 0 rfl) rfl (lv_at hl 2 rfl) ?_
        refine lv_aload_n X.1 X.2.1 (dck_at da_L_law_19 1 rfl) rfl (lv_at hl 0 rfl) ?_
        refine lv_iload_n X.1 X.2.1 (dck_at da_L_law_19 2 rfl) rfl (lv_at hl 3 rfl) ?_
        refine lv_iconst X.1 X.2.1 (dck_at da_L_law_19 3 rfl) ki_1 ?_
        refine lv_iadd X.1 X.2.1 (dck_at da_L_law_19 4 rfl) ?_
        refine va_sld X.1 X.2.1 hX hbl hbA hSf h1 (dck_at da_L_law_19 5 rfl) ?_
        refine lv_aload_n X.1 X.2.1 (dck_at da_L_law_19 6 rfl) rfl (lv_at hl 0 rfl) ?_
        refine lv_iload_n X.1 X.2.1 (dck_at da_L_law_19 7 rfl) rfl (lv_at hl 3 rfl) ?_
        refine lv_iconst X.1 X.2.1 (dck_at da_L_law_19 8 rfl) ki_2 ?_
        refine lv_iadd X.1 X.2.1 (dck_at da_L_law_19 9 rfl) ?_
        refine va_sld X.1 X.2.1 hX hbl hbA hSf h2 (dck_at da_L_law_19 10 rfl) ?_
        refine lw_backi (lw_runV (as := [.int (xs (x3 + (1 : Int32)).toNatClampNeg), .int (xs (x3 + (2 : Int32)).toNatClampNeg)]) (rest := [.int r]) X FM PM hz hfr (ok_m_span eM) cv_RL_139 clM_0 ⟨Nat.le_of_ble_eq_true rfl, Nat.le_of_ble_eq_true rfl⟩ rfl hl.1 (Nat.le_of_ble_eq_true rfl) (dck_at da_L_law_19 11 rfl) ⟨Nat.le_of_ble_eq_true rfl, Nat.le_of_ble_eq_true rfl⟩) hnM PC rfl hapM hz hfr (fun H PM PC hz hfr => ?_)
        have hSf : va_S (fun q : Nat => s.heap.size ≤ q) s.heap H [] := ⟨hz, fun q h _ => hfr q h, fun _ h => by cases h⟩
        refine lv_icmp_eq (tgt := 1684) X.1 X.2.1 (dck_at da_L_law_19 12 rfl) rfl (fun _ => ?_) (fun c => absurd rfl c)
        exact next σ1 τ1 H hR PC PM hz hfr
      by_cases c29 : w = (29 : Int32)
      · obtain ⟨r, σ1, τ1, eC, eM, hR⟩ := hq.2.2.2.2.2.2.2.2.2.2.2.2.2.2.2.2.2.2.2.2.2.2.2.2.2.2.2.2.2.1
        refine lv_tableIn (tgt := 1157) (off := 1124) X.1 X.2.1 (dck_at da_L_law 21 rfl) (by rw [c29]; decide) (by rw [c29]; decide) (by rw [c29]; rfl) rfl ?_
        refine lv_aload_n X.1 X.2.1 (dck_at da_L_law_19 15 rfl) rfl (lv_at hl 1 rfl) ?_
        refine lw_backi (lw_runV (as := []) (rest := []) X FC PC hz hfr (ok_c_held eC) cv_RL_140 clC_0 ⟨Nat.le_of_ble_eq_true rfl, Nat.le_of_ble_eq_true rfl⟩ rfl hl.1 (Nat.le_of_ble_eq_true rfl) (dck_at da_L_law_19 16 rfl) ⟨Nat.le_of_ble_eq_true rfl, Nat.le_of_ble_eq_true rfl⟩) hnC PM rfl hapC hz hfr (fun H PC PM hz hfr => ?_)
        have hSf : va_S (fun q : Nat => s.heap.size ≤ q) s.heap H [] := ⟨hz, fun q h _ => hfr q h, fun _ h => by cases h⟩
        refine lv_aload_n X.1 X.2.1 (dck_at da_L_law_19 17 rfl) rfl (lv_at hl 2 rfl) ?_
        refine lw_backi (lw_runV (as := []) (rest := [.int r]) X FM PM hz hfr (ok_m_held eM) cv_RL_143 clM_0 ⟨Nat.le_of_ble_eq_true rfl, Nat.le_of_ble_eq_true rfl⟩ rfl hl.1 (Nat.le_of_ble_eq_true rfl) (dck_at da_L_law_19 18 rfl) ⟨Nat.le_of_ble_eq_true rfl, Nat.le_of_ble_eq_true rfl⟩) hnM PC rfl hapM hz hfr (fun H PM PC hz hfr => ?_)
        have hSf : va_S (fun q : Nat => s.heap.size ≤ q) s.heap H [] := ⟨hz, fun q h _ => hfr q h, fun _ h => by cases h⟩
        refine lv_icmp_eq (tgt := 1684) X.1 X.2.1 (dck_at da_L_law_19 19 rfl) rfl (fun _ => ?_) (fun c => absurd rfl c)
        exact next σ1 τ1 H hR PC PM hz hfr
      by_cases c30 : w = (30 : Int32)
      · obtain ⟨r, σ1, τ1, eC, eM, hR⟩ := hq.2.2.2.2.2.2.2.2.2.2.2.2.2.2.2.2.2.2.2.2.2.2.2.2.2.2.2.2.2.2.1 (xs (x3 + (1 : Int32)).toNatClampNeg) (xs (x3 + (2 : Int32)).toNatClampNeg)
        refine lv_tableIn (tgt := 1170) (off := 1137) X.1 X.2.1 (dck_at da_L_law 21 rfl) (by rw [c30]; decide) (by rw [c30]; decide) (by rw [c30]; rfl) rfl ?_
        refine lv_aload_n X.1 X.2.1 (dck_at da_L_law_19 22 rfl) rfl (lv_at hl 1 rfl) ?_
        refine lv_aload_n X.1 X.2.1 (dck_at da_L_law_19 23 rfl) rfl (lv_at hl 0 rfl) ?_
        refine lv_iload_n X.1 X.2.1 (dck_at da_L_law_19 24 rfl) rfl (lv_at hl 3 rfl) ?_
        refine lv_iconst X.1 X.2.1 (dck_at da_L_law_19 25 rfl) ki_1 ?_
        refine lv_iadd X.1 X.2.1 (dck_at da_L_law_19 26 rfl) ?_
        refine va_sld X.1 X.2.1 hX hbl hbA hSf h1 (dck_at da_L_law_19 27 rfl) ?_
        refine lv_aload_n X.1 X.2.1 (dck_at da_L_law_19 28 rfl) rfl (lv_at hl 0 rfl) ?_
        refine lv_iload_n X.1 X.2.1 (dck_at da_L_law_19 29 rfl) rfl (lv_at hl 3 rfl) ?_
        refine lv_iconst X.1 X.2.1 (dck_at da_L_law_19 30 rfl) ki_2 ?_
        refine lv_iadd X.1 X.2.1 (dck_at da_L_law_19 31 rfl) ?_
        refine va_sld X.1 X.2.1 hX hbl hbA hSf h2 (dck_at da_L_law_19 32 rfl) ?_
        refine lw_backi (lw_runV (as := [.int (xs (x3 + (1 : Int32)).toNatClampNeg), .int (xs (x3 + (2 : Int32)).toNatClampNeg)]) (rest := []) X FC PC hz hfr (ok_c_measure eC) cv_RL_144 clC_0 ⟨Nat.le_of_ble_eq_true rfl, Nat.le_of_ble_eq_true rfl⟩ rfl hl.1 (Nat.le_of_ble_eq_true rfl) (dck_at da_L_law_19 33 rfl) ⟨Nat.le_of_ble_eq_true rfl, Nat.le_of_ble_eq_true rfl⟩) hnC PM rfl hapC hz hfr (fun H PC PM hz hfr => ?_)
        have hSf : va_S (fun q : Nat => s.heap.size ≤ q) s.heap H [] := ⟨hz, fun q h _ => hfr q h, fun _ h => by cases h⟩
        refine lv_aload_n X.1 X.2.1 (dck_at da_L_law_19 34 rfl) rfl (lv_at hl 2 rfl) ?_
        refine lv_aload_n X.1 X.2.1 (dck_at da_L_law_19 35 rfl) rfl (lv_at hl 0 rfl) ?_
        refine lv_iload_n X.1 X.2.1 (dck_at da_L_law_19 36 rfl) rfl (lv_at hl 3 rfl) ?_
        refine lv_iconst X.1 X.2.1 (dck_at da_L_law_19 37 rfl) ki_1 ?_
        refine lv_iadd X.1 X.2.1 (dck_at da_L_law_19 38 rfl) ?_
        refine va_sld X.1 X.2.1 hX hbl hbA hSf h1 (dck_at da_L_law_19 39 rfl) ?_
        refine lv_aload_n X.1 X.2.1 (dck_at da_L_law_20 0 rfl) rfl (lv_at hl 0 rfl) ?_
        refine lv_iload_n X.1 X.2.1 (dck_at da_L_law_20 1 rfl) rfl (lv_at hl 3 rfl) ?_
        refine lv_iconst X.1 X.2.1 (dck_at da_L_law_20 2 rfl) ki_2 ?_
        refine lv_iadd X.1 X.2.1 (dck_at da_L_law_20 3 rfl) ?_
        refine va_sld X.1 X.2.1 hX hbl hbA hSf h2 (dck_at da_L_law_20 4 rfl) ?_
        refine lw_backi (lw_runV (as := [.int (xs (x3 + (1 : Int32)).toNatClampNeg), .int (xs (x3 + (2 : Int32)).toNatClampNeg)]) (rest := [.int r]) X FM PM hz hfr (ok_m_measure eM) cv_RL_147 clM_0 ⟨Nat.le_of_ble_eq_true rfl, Nat.le_of_ble_eq_true rfl⟩ rfl hl.1 (Nat.le_of_ble_eq_true rfl) (dck_at da_L_law_20 5 rfl) ⟨Nat.le_of_ble_eq_true rfl, Nat.le_of_ble_eq_true rfl⟩) hnM PC rfl hapM hz hfr (fun H PM PC hz hfr => ?_)
        have hSf : va_S (fun q : Nat => s.heap.size ≤ q) s.heap H [] := ⟨hz, fun q h _ => hfr q h, fun _ h => by cases h⟩
        refine lv_icmp_eq (tgt := 1684) X.1 X.2.1 (dck_at da_L_law_20 6 rfl) rfl (fun _ => ?_) (fun c => absurd rfl c)
        exact next σ1 τ1 H hR PC PM hz hfr
      by_cases c31 : w = (31 : Int32)
      · obtain ⟨r, σ1, τ1, eC, eM, hR⟩ := hq.2.2.2.2.2.2.2.2.2.2.2.2.2.2.2.2.2.2.2.2.2.2.2.2.2.2.2.2.2.2.2.1 (xs (x3 + (1 : Int32)).toNatClampNeg) (xs (x3 + (2 : Int32)).toNatClampNeg)
        refine lv_tableIn (tgt := 1203) (off := 1170) X.1 X.2.1 (dck_at da_L_law 21 rfl) (by rw [c31]; decide) (by rw [c31]; decide) (by rw [c31]; rfl) rfl ?_
        refine lv_aload_n X.1 X.2.1 (dck_at da_L_law_20 9 rfl) rfl (lv_at hl 1 rfl) ?_
        refine lv_aload_n X.1 X.2.1 (dck_at da_L_law_20 10 rfl) rfl (lv_at hl 0 rfl) ?_
        refine lv_iload_n X.1 X.2.1 (dck_at da_L_law_20 11 rfl) rfl (lv_at hl 3 rfl) ?_
        refine lv_iconst X.1 X.2.1 (dck_at da_L_law_20 12 rfl) ki_1 ?_
        refine lv_iadd X.1 X.2.1 (dck_at da_L_law_20 13 rfl) ?_
        refine va_sld X.1 X.2.1 hX hbl hbA hSf h1 (dck_at da_L_law_20 14 rfl) ?_
        refine lv_aload_n X.1 X.2.1 (dck_at da_L_law_20 15 rfl) rfl (lv_at hl 0 rfl) ?_
        refine lv_iload_n X.1 X.2.1 (dck_at da_L_law_20 16 rfl) rfl (lv_at hl 3 rfl) ?_
        refine lv_iconst X.1 X.2.1 (dck_at da_L_law_20 17 rfl) ki_2 ?_
        refine lv_iadd X.1 X.2.1 (dck_at da_L_law_20 18 rfl) ?_
        refine va_sld X.1 X.2.1 hX hbl hbA hSf h2 (dck_at da_L_law_20 19 rfl) ?_
        refine lw_backl (lw_runV (as := [.int (xs (x3 + (1 : Int32)).toNatClampNeg), .int (xs (x3 + (2 : Int32)).toNatClampNeg)]) (rest := []) X FC PC hz hfr (ok_c_leaves eC) cv_RL_148 clC_0 ⟨Nat.le_of_ble_eq_true rfl, Nat.le_of_ble_eq_true rfl⟩ rfl hl.1 (Nat.le_of_ble_eq_true rfl) (dck_at da_L_law_20 20 rfl) ⟨Nat.le_of_ble_eq_true rfl, Nat.le_of_ble_eq_true rfl⟩) hnC PM rfl hapC hz hfr (fun H PC PM hz hfr => ?_)
        have hSf : va_S (fun q : Nat => s.heap.size ≤ q) s.heap H [] := ⟨hz, fun q h _ => hfr q h, fun _ h => by cases h⟩
        refine lv_aload_n X.1 X.2.1 (dck_at da_L_law_20 21 rfl) rfl (lv_at hl 2 rfl) ?_
        refine lv_aload_n X.1 X.2.1 (dck_at da_L_law_20 22 rfl) rfl (lv_at hl 0 rfl) ?_
        refine lv_iload_n X.1 X.2.1 (dck_at da_L_law_20 23 rfl) rfl (lv_at hl 3 rfl) ?_
        refine lv_iconst X.1 X.2.1 (dck_at da_L_law_20 24 rfl) ki_1 ?_
        refine lv_iadd X.1 X.2.1 (dck_at da_L_law_20 25 rfl) ?_
        refine va_sld X.1 X.2.1 hX hbl hbA hSf h1 (dck_at da_L_law_20 26 rfl) ?_
        refine lv_aload_n X.1 X.2.1 (dck_at da_L_law_20 27 rfl) rfl (lv_at hl 0 rfl) ?_
        refine lv_iload_n X.1 X.2.1 (dck_at da_L_law_20 28 rfl) rfl (lv_at hl 3 rfl) ?_
        refine lv_iconst X.1 X.2.1 (dck_at da_L_law_20 29 rfl) ki_2 ?_
        refine lv_iadd X.1 X.2.1 (dck_at da_L_law_20 30 rfl) ?_
        refine va_sld X.1 X.2.1 hX hbl hbA hSf h2 (dck_at da_L_law_20 31 rfl) ?_
        refine lw_backl (lw_runV (as := [.int (xs (x3 + (1 : Int32)).toNatClampNeg), .int (xs (x3 + (2 : Int32)).toNatClampNeg)]) (rest := [.long r]) X FM PM hz hfr (ok_m_leaves eM) cv_RL_151 clM_0 ⟨Nat.le_of_ble_eq_true rfl, Nat.le_of_ble_eq_true rfl⟩ rfl hl.1 (Nat.le_of_ble_eq_true rfl) (dck_at da_L_law_20 32 rfl) ⟨Nat.le_of_ble_eq_true rfl, Nat.le_of_ble_eq_true rfl⟩) hnM PC rfl hapM hz hfr (fun H PM PC hz hfr => ?_)
        have hSf : va_S (fun q : Nat => s.heap.size ≤ q) s.heap H [] := ⟨hz, fun q h _ => hfr q h, fun _ h => by cases h⟩
        refine W.lcmp X.1 X.2.1 (dck_at da_L_law_20 33 rfl) ?_
        refine lv_if_eq (tgt := 1684) X.1 X.2.1 (dck_at da_L_law_20 34 rfl) rfl (fun _ => ?_) (fun c => absurd ((lg_cmp_eq _ _).mpr rfl) c)
        exact next σ1 τ1 H hR PC PM hz hfr
      by_cases c32 : w = (32 : Int32)
      · obtain ⟨r, σ1, τ1, eC, eM, hR⟩ := hq.2.2.2.2.2.2.2.2.2.2.2.2.2.2.2.2.2.2.2.2.2.2.2.2.2.2.2.2.2.2.2.2.1 (xs (x3 + (1 : Int32)).toNatClampNeg) (xs (x3 + (2 : Int32)).toNatClampNeg)
        refine lv_tableIn (tgt := 1237) (off := 1204) X.1 X.2.1 (dck_at da_L_law 21 rfl) (by rw [c32]; decide) (by rw [c32]; decide) (by rw [c32]; rfl) rfl ?_
        refine lv_aload_n X.1 X.2.1 (dck_at da_L_law_20 37 rfl) rfl (lv_at hl 1 rfl) ?_
        refine lv_aload_n X.1 X.2.1 (dck_at da_L_law_20 38 rfl) rfl (lv_at hl 0 rfl) ?_
        refine lv_iload_n X.1 X.2.1 (dck_at da_L_law_20 39 rfl) rfl (lv_at hl 3 rfl) ?_
        refine lv_iconst X.1 X.2.1 (dck_at da_L_law_21 0 rfl) ki_1 ?_
        refine lv_iadd X.1 X.2.1 (dck_at da_L_law_21 1 rfl) ?_
        refine va_sld X.1 X.2.1 hX hbl hbA hSf h1 (dck_at da_L_law_21 2 rfl) ?_
        refine lv_aload_n X.1 X.2.1 (dck_at da_L_law_21 3 rfl) rfl (lv_at hl 0 rfl) ?_
        refine lv_iload_n X.1 X.2.1 (dck_at da_L_law_21 4 rfl) rfl (lv_at hl 3 rfl) ?_
        refine lv_iconst X.1 X.2.1 (dck_at da_L_law_21 5 rfl) ki_2 ?_
        refine lv_iadd X.1 X.2.1 (dck_at da_L_law_21 6 rfl) ?_
        refine va_sld X.1 X.2.1 hX hbl hbA hSf h2 (dck_at da_L_law_21 7 rfl) ?_
        refine lw_backi (lw_runV (as := [.int (xs (x3 + (1 : Int32)).toNatClampNeg), .int (xs (x3 + (2 : Int32)).toNatClampNeg)]) (rest := []) X FC PC hz hfr (ok_c_least eC) cv_RL_152 clC_0 ⟨Nat.le_of_ble_eq_true rfl, Nat.le_of_ble_eq_true rfl⟩ rfl hl.1 (Nat.le_of_ble_eq_true rfl) (dck_at da_L_law_21 8 rfl) ⟨Nat.le_of_ble_eq_true rfl, Nat.le_of_ble_eq_true rfl⟩) hnC PM rfl hapC hz hfr (fun H PC PM hz hfr => ?_)
        have hSf : va_S (fun q : Nat => s.heap.size ≤ q) s.heap H [] := ⟨hz, fun q h _ => hfr q h, fun _ h => by cases h⟩
        refine lv_aload_n X.1 X.2.1 (dck_at da_L_law_21 9 rfl) rfl (lv_at hl 2 rfl) ?_
        refine lv_aload_n X.1 X.2.1 (dck_at da_L_law_21 10 rfl) rfl (lv_at hl 0 rfl) ?_
        refine lv_iload_n X.1 X.2.1 (dck_at da_L_law_21 11 rfl) rfl (lv_at hl 3 rfl) ?_
        refine lv_iconst X.1 X.2.1 (dck_at da_L_law_21 12 rfl) ki_1 ?_
        refine lv_iadd X.1 X.2.1 (dck_at da_L_law_21 13 rfl) ?_
        refine va_sld X.1 X.2.1 hX hbl hbA hSf h1 (dck_at da_L_law_21 14 rfl) ?_
        refine lv_aload_n X.1 X.2.1 (dck_at da_L_law_21 15 rfl) rfl (lv_at hl 0 rfl) ?_
        refine lv_iload_n X.1 X.2.1 (dck_at da_L_law_21 16 rfl) rfl (lv_at hl 3 rfl) ?_
        refine lv_iconst X.1 X.2.1 (dck_at da_L_law_21 17 rfl) ki_2 ?_
        refine lv_iadd X.1 X.2.1 (dck_at da_L_law_21 18 rfl) ?_
        refine va_sld X.1 X.2.1 hX hbl hbA hSf h2 (dck_at da_L_law_21 19 rfl) ?_
        refine lw_backi (lw_runV (as := [.int (xs (x3 + (1 : Int32)).toNatClampNeg), .int (xs (x3 + (2 : Int32)).toNatClampNeg)]) (rest := [.int r]) X FM PM hz hfr (ok_m_least eM) cv_RL_155 clM_0 ⟨Nat.le_of_ble_eq_true rfl, Nat.le_of_ble_eq_true rfl⟩ rfl hl.1 (Nat.le_of_ble_eq_true rfl) (dck_at da_L_law_21 20 rfl) ⟨Nat.le_of_ble_eq_true rfl, Nat.le_of_ble_eq_true rfl⟩) hnM PC rfl hapM hz hfr (fun H PM PC hz hfr => ?_)
        have hSf : va_S (fun q : Nat => s.heap.size ≤ q) s.heap H [] := ⟨hz, fun q h _ => hfr q h, fun _ h => by cases h⟩
        refine lv_icmp_eq (tgt := 1684) X.1 X.2.1 (dck_at da_L_law_21 21 rfl) rfl (fun _ => ?_) (fun c => absurd rfl c)
        exact next σ1 τ1 H hR PC PM hz hfr
      by_cases c33 : w = (33 : Int32)
      · obtain ⟨r, σ1, τ1, eC, eM, hR⟩ := hq.2.2.2.2.2.2.2.2.2.2.2.2.2.2.2.2.2.2.2.2.2.2.2.2.2.2.2.2.2.2.2.2.2.1 (xs (x3 + (1 : Int32)).toNatClampNeg) (xs (x3 + (2 : Int32)).toNatClampNeg)
        refine lv_tableIn (tgt := 1270) (off := 1237) X.1 X.2.1 (dck_at da_L_law 21 rfl) (by rw [c33]; decide) (by rw [c33]; decide) (by rw [c33]; rfl) rfl ?_
        refine lv_aload_n X.1 X.2.1 (dck_at da_L_law_21 24 rfl) rfl (lv_at hl 1 rfl) ?_
        refine lv_aload_n X.1 X.2.1 (dck_at da_L_law_21 25 rfl) rfl (lv_at hl 0 rfl) ?_
        refine lv_iload_n X.1 X.2.1 (dck_at da_L_law_21 26 rfl) rfl (lv_at hl 3 rfl) ?_
        refine lv_iconst X.1 X.2.1 (dck_at da_L_law_21 27 rfl) ki_1 ?_
        refine lv_iadd X.1 X.2.1 (dck_at da_L_law_21 28 rfl) ?_
        refine va_sld X.1 X.2.1 hX hbl hbA hSf h1 (dck_at da_L_law_21 29 rfl) ?_
        refine lv_aload_n X.1 X.2.1 (dck_at da_L_law_21 30 rfl) rfl (lv_at hl 0 rfl) ?_
        refine lv_iload_n X.1 X.2.1 (dck_at da_L_law_21 31 rfl) rfl (lv_at hl 3 rfl) ?_
        refine lv_iconst X.1 X.2.1 (dck_at da_L_law_21 32 rfl) ki_2 ?_
        refine lv_iadd X.1 X.2.1 (dck_at da_L_law_21 33 rfl) ?_
        refine va_sld X.1 X.2.1 hX hbl hbA hSf h2 (dck_at da_L_law_21 34 rfl) ?_
        refine lw_backl (lw_runV (as := [.int (xs (x3 + (1 : Int32)).toNatClampNeg), .int (xs (x3 + (2 : Int32)).toNatClampNeg)]) (rest := []) X FC PC hz hfr (ok_c_net eC) cv_RL_156 clC_0 ⟨Nat.le_of_ble_eq_true rfl, Nat.le_of_ble_eq_true rfl⟩ rfl hl.1 (Nat.le_of_ble_eq_true rfl) (dck_at da_L_law_21 35 rfl) ⟨Nat.le_of_ble_eq_true rfl, Nat.le_of_ble_eq_true rfl⟩) hnC PM rfl hapC hz hfr (fun H PC PM hz hfr => ?_)
        have hSf : va_S (fun q : Nat => s.heap.size ≤ q) s.heap H [] := ⟨hz, fun q h _ => hfr q h, fun _ h => by cases h⟩
        refine lv_aload_n X.1 X.2.1 (dck_at da_L_law_21 36 rfl) rfl (lv_at hl 2 rfl) ?_
        refine lv_aload_n X.1 X.2.1 (dck_at da_L_law_21 37 rfl) rfl (lv_at hl 0 rfl) ?_
        refine lv_iload_n X.1 X.2.1 (dck_at da_L_law_21 38 rfl) rfl (lv_at hl 3 rfl) ?_
        refine lv_iconst X.1 X.2.1 (dck_at da_L_law_21 39 rfl) ki_1 ?_
        refine lv_iadd X.1 X.2.1 (dck_at da_L_law_22 0 rfl) ?_
        refine va_sld X.1 X.2.1 hX hbl hbA hSf h1 (dck_at da_L_law_22 1 rfl) ?_
        refine lv_aload_n X.1 X.2.1 (dck_at da_L_law_22 2 rfl) rfl (lv_at hl 0 rfl) ?_
        refine lv_iload_n X.1 X.2.1 (dck_at da_L_law_22 3 rfl) rfl (lv_at hl 3 rfl) ?_
        refine lv_iconst X.1 X.2.1 (dck_at da_L_law_22 4 rfl) ki_2 ?_
        refine lv_iadd X.1 X.2.1 (dck_at da_L_law_22 5 rfl) ?_
        refine va_sld X.1 X.2.1 hX hbl hbA hSf h2 (dck_at da_L_law_22 6 rfl) ?_
        refine lw_backl (lw_runV (as := [.int (xs (x3 + (1 : Int32)).toNatClampNeg), .int (xs (x3 + (2 : Int32)).toNatClampNeg)]) (rest := [.long r]) X FM PM hz hfr (ok_m_net eM) cv_RL_159 clM_0 ⟨Nat.le_of_ble_eq_true rfl, Nat.le_of_ble_eq_true rfl⟩ rfl hl.1 (Nat.le_of_ble_eq_true rfl) (dck_at da_L_law_22 7 rfl) ⟨Nat.le_of_ble_eq_true rfl, Nat.le_of_ble_eq_true rfl⟩) hnM PC rfl hapM hz hfr (fun H PM PC hz hfr => ?_)
        have hSf : va_S (fun q : Nat => s.heap.size ≤ q) s.heap H [] := ⟨hz, fun q h _ => hfr q h, fun _ h => by cases h⟩
        refine W.lcmp X.1 X.2.1 (dck_at da_L_law_22 8 rfl) ?_
        refine lv_if_eq (tgt := 1684) X.1 X.2.1 (dck_at da_L_law_22 9 rfl) rfl (fun _ => ?_) (fun c => absurd ((lg_cmp_eq _ _).mpr rfl) c)
        exact next σ1 τ1 H hR PC PM hz hfr
      by_cases c34 : w = (34 : Int32)
      · obtain ⟨r, σ1, τ1, eC, eM, hR⟩ := hq.2.2.2.2.2.2.2.2.2.2.2.2.2.2.2.2.2.2.2.2.2.2.2.2.2.2.2.2.2.2.2.2.2.2.1
        refine lv_tableIn (tgt := 1304) (off := 1271) X.1 X.2.1 (dck_at da_L_law 21 rfl) (by rw [c34]; decide) (by rw [c34]; decide) (by rw [c34]; rfl) rfl ?_
        refine lv_aload_n X.1 X.2.1 (dck_at da_L_law_22 12 rfl) rfl (lv_at hl 1 rfl) ?_
        refine lw_backi (lw_runV (as := []) (rest := []) X FC PC hz hfr (ok_c_clear eC) cv_RL_160 clC_0 ⟨Nat.le_of_ble_eq_true rfl, Nat.le_of_ble_eq_true rfl⟩ rfl hl.1 (Nat.le_of_ble_eq_true rfl) (dck_at da_L_law_22 13 rfl) ⟨Nat.le_of_ble_eq_true rfl, Nat.le_of_ble_eq_true rfl⟩) hnC PM rfl hapC hz hfr (fun H PC PM hz hfr => ?_)
        have hSf : va_S (fun q : Nat => s.heap.size ≤ q) s.heap H [] := ⟨hz, fun q h _ => hfr q h, fun _ h => by cases h⟩
        refine lv_aload_n X.1 X.2.1 (dck_at da_L_law_22 14 rfl) rfl (lv_at hl 2 rfl) ?_
        refine lw_backi (lw_runV (as := []) (rest := [.int r]) X FM PM hz hfr (ok_m_clear eM) cv_RL_163 clM_0 ⟨Nat.le_of_ble_eq_true rfl, Nat.le_of_ble_eq_true rfl⟩ rfl hl.1 (Nat.le_of_ble_eq_true rfl) (dck_at da_L_law_22 15 rfl) ⟨Nat.le_of_ble_eq_true rfl, Nat.le_of_ble_eq_true rfl⟩) hnM PC rfl hapM hz hfr (fun H PM PC hz hfr => ?_)
        have hSf : va_S (fun q : Nat => s.heap.size ≤ q) s.heap H [] := ⟨hz, fun q h _ => hfr q h, fun _ h => by cases h⟩
        refine lv_icmp_eq (tgt := 1684) X.1 X.2.1 (dck_at da_L_law_22 16 rfl) rfl (fun _ => ?_) (fun c => absurd rfl c)
        exact next σ1 τ1 H hR PC PM hz hfr
      by_cases c35 : w = (35 : Int32)
      · obtain ⟨r, σ1, τ1, eC, eM, hR⟩ := hq.2.2.2.2.2.2.2.2.2.2.2.2.2.2.2.2.2.2.2.2.2.2.2.2.2.2.2.2.2.2.2.2.2.2.2.1
        refine lv_tableIn (tgt := 1317) (off := 1284) X.1 X.2.1 (dck_at da_L_law 21 rfl) (by rw [c35]; decide) (by rw [c35]; decide) (by rw [c35]; rfl) rfl ?_
        refine lv_aload_n X.1 X.2.1 (dck_at da_L_law_22 19 rfl) rfl (lv_at hl 1 rfl) ?_
        refine lw_backi (lw_runV (as := []) (rest := []) X FC PC hz hfr (ok_c_image eC) cv_RL_164 clC_0 ⟨Nat.le_of_ble_eq_true rfl, Nat.le_of_ble_eq_true rfl⟩ rfl hl.1 (Nat.le_of_ble_eq_true rfl) (dck_at da_L_law_22 20 rfl) ⟨Nat.le_of_ble_eq_true rfl, Nat.le_of_ble_eq_true rfl⟩) hnC PM rfl hapC hz hfr (fun H PC PM hz hfr => ?_)
        have hSf : va_S (fun q : Nat => s.heap.size ≤ q) s.heap H [] := ⟨hz, fun q h _ => hfr q h, fun _ h => by cases h⟩
        refine lv_aload_n X.1 X.2.1 (dck_at da_L_law_22 21 rfl) rfl (lv_at hl 2 rfl) ?_
        refine lw_backi (lw_runV (as := []) (rest := [.int r]) X FM PM hz hfr (ok_m_image eM) cv_RL_167 clM_0 ⟨Nat.le_of_ble_eq_true rfl, Nat.le_of_ble_eq_true rfl⟩ rfl hl.1 (Nat.le_of_ble_eq_true rfl) (dck_at da_L_law_22 22 rfl) ⟨Nat.le_of_ble_eq_true rfl, Nat.le_of_ble_eq_true rfl⟩) hnM PC rfl hapM hz hfr (fun H PM PC hz hfr => ?_)
        have hSf : va_S (fun q : Nat => s.heap.size ≤ q) s.heap H [] := ⟨hz, fun q h _ => hfr q h, fun _ h => by cases h⟩
        refine lv_icmp_eq (tgt := 1684) X.1 X.2.1 (dck_at da_L_law_22 23 rfl) rfl (fun _ => ?_) (fun c => absurd rfl c)
        exact next σ1 τ1 H hR PC PM hz hfr
      by_cases c36 : w = (36 : Int32)
      · obtain ⟨r, σ1, τ1, eC, eM, hR⟩ := hq.2.2.2.2.2.2.2.2.2.2.2.2.2.2.2.2.2.2.2.2.2.2.2.2.2.2.2.2.2.2.2.2.2.2.2.2.1
        refine lv_tableIn (tgt := 1330) (off := 1297) X.1 X.2.1 (dck_at da_L_law 21 rfl) (by rw [c36]; decide) (by rw [c36]; decide) (by rw [c36]; rfl) rfl ?_
        refine lv_aload_n X.1 X.2.1 (dck_at da_L_law_22 26 rfl) rfl (lv_at hl 1 rfl) ?_
        refine lw_backi (lw_runV (as := []) (rest := []) X FC PC hz hfr (ok_c_restore eC) cv_RL_168 clC_0 ⟨Nat.le_of_ble_eq_true rfl, Nat.le_of_ble_eq_true rfl⟩ rfl hl.1 (Nat.le_of_ble_eq_true rfl) (dck_at da_L_law_22 27 rfl) ⟨Nat.le_of_ble_eq_true rfl, Nat.le_of_ble_eq_true rfl⟩) hnC PM rfl hapC hz hfr (fun H PC PM hz hfr => ?_)
        have hSf : va_S (fun q : Nat => s.heap.size ≤ q) s.heap H [] := ⟨hz, fun q h _ => hfr q h, fun _ h => by cases h⟩
        refine lv_aload_n X.1 X.2.1 (dck_at da_L_law_22 28 rfl) rfl (lv_at hl 2 rfl) ?_
        refine lw_backi (lw_runV (as := []) (rest := [.int r]) X FM PM hz hfr (ok_m_restore eM) cv_RL_171 clM_0 ⟨Nat.le_of_ble_eq_true rfl, Nat.le_of_ble_eq_true rfl⟩ rfl hl.1 (Nat.le_of_ble_eq_true rfl) (dck_at da_L_law_22 29 rfl) ⟨Nat.le_of_ble_eq_true rfl, Nat.le_of_ble_eq_true rfl⟩) hnM PC rfl hapM hz hfr (fun H PM PC hz hfr => ?_)
        have hSf : va_S (fun q : Nat => s.heap.size ≤ q) s.heap H [] := ⟨hz, fun q h _ => hfr q h, fun _ h => by cases h⟩
        refine lv_icmp_eq (tgt := 1684) X.1 X.2.1 (dck_at da_L_law_22 30 rfl) rfl (fun _ => ?_) (fun c => absurd rfl c)
        exact next σ1 τ1 H hR PC PM hz hfr
      by_cases c37 : w = (37 : Int32)
      · obtain ⟨r, σ1, τ1, eC, eM, hR⟩ := hq.2.2.2.2.2.2.2.2.2.2.2.2.2.2.2.2.2.2.2.2.2.2.2.2.2.2.2.2.2.2.2.2.2.2.2.2.2.1 (xs (x3 + (1 : Int32)).toNatClampNeg)
        refine lv_tableIn (tgt := 1343) (off := 1310) X.1 X.2.1 (dck_at da_L_law 21 rfl) (by rw [c37]; decide) (by rw [c37]; decide) (by rw [c37]; rfl) rfl ?_
        refine lv_aload_n X.1 X.2.1 (dck_at da_L_law_22 33 rfl) rfl (lv_at hl 1 rfl) ?_
        refine lv_aload_n X.1 X.2.1 (dck_at da_L_law_22 34 rfl) rfl (lv_at hl 0 rfl) ?_
        refine lv_iload_n X.1 X.2.1 (dck_at da_L_law_22 35 rfl) rfl (lv_at hl 3 rfl) ?_
        refine lv_iconst X.1 X.2.1 (dck_at da_L_law_22 36 rfl) ki_1 ?_
        refine lv_iadd X.1 X.2.1 (dck_at da_L_law_22 37 rfl) ?_
        refine va_sld X.1 X.2.1 hX hbl hbA hSf h1 (dck_at da_L_law_22 38 rfl) ?_
        refine lw_backi (lw_runV (as := [.int (xs (x3 + (1 : Int32)).toNatClampNeg)]) (rest := []) X FC PC hz hfr (ok_c_status eC) cv_RL_172 clC_0 ⟨Nat.le_of_ble_eq_true rfl, Nat.le_of_ble_eq_true rfl⟩ rfl hl.1 (Nat.le_of_ble_eq_true rfl) (dck_at da_L_law_22 39 rfl) ⟨Nat.le_of_ble_eq_true rfl, Nat.le_of_ble_eq_true rfl⟩) hnC PM rfl hapC hz hfr (fun H PC PM hz hfr => ?_)
        have hSf : va_S (fun q : Nat => s.heap.size ≤ q) s.heap H [] := ⟨hz, fun q h _ => hfr q h, fun _ h => by cases h⟩
        refine lv_aload_n X.1 X.2.1 (dck_at da_L_law_23 0 rfl) rfl (lv_at hl 2 rfl) ?_
        refine lv_aload_n X.1 X.2.1 (dck_at da_L_law_23 1 rfl) rfl (lv_at hl 0 rfl) ?_
        refine lv_iload_n X.1 X.2.1 (dck_at da_L_law_23 2 rfl) rfl (lv_at hl 3 rfl) ?_
        refine lv_iconst X.1 X.2.1 (dck_at da_L_law_23 3 rfl) ki_1 ?_
        refine lv_iadd X.1 X.2.1 (dck_at da_L_law_23 4 rfl) ?_
        refine va_sld X.1 X.2.1 hX hbl hbA hSf h1 (dck_at da_L_law_23 5 rfl) ?_
        refine lw_backi (lw_runV (as := [.int (xs (x3 + (1 : Int32)).toNatClampNeg)]) (rest := [.int r]) X FM PM hz hfr (ok_m_status eM) cv_RL_175 clM_0 ⟨Nat.le_of_ble_eq_true rfl, Nat.le_of_ble_eq_true rfl⟩ rfl hl.1 (Nat.le_of_ble_eq_true rfl) (dck_at da_L_law_23 6 rfl) ⟨Nat.le_of_ble_eq_true rfl, Nat.le_of_ble_eq_true rfl⟩) hnM PC rfl hapM hz hfr (fun H PM PC hz hfr => ?_)
        have hSf : va_S (fun q : Nat => s.heap.size ≤ q) s.heap H [] := ⟨hz, fun q h _ => hfr q h, fun _ h => by cases h⟩
        refine lv_icmp_eq (tgt := 1684) X.1 X.2.1 (dck_at da_L_law_23 7 rfl) rfl (fun _ => ?_) (fun c => absurd rfl c)
        exact next σ1 τ1 H hR PC PM hz hfr
      by_cases c38 : w = (38 : Int32)
      · obtain ⟨r, σ1, τ1, eC, eM, hR⟩ := hq.2.2.2.2.2.2.2.2.2.2.2.2.2.2.2.2.2.2.2.2.2.2.2.2.2.2.2.2.2.2.2.2.2.2.2.2.2.2.1 (xs (x3 + (1 : Int32)).toNatClampNeg) (xs (x3 + (2 : Int32)).toNatClampNeg) (xs (x3 + (3 : Int32)).toNatClampNeg) (xs (x3 + (4 : Int32)).toNatClampNeg)
        refine lv_tableIn (tgt := 1366) (off := 1333) X.1 X.2.1 (dck_at da_L_law 21 rfl) (by rw [c38]; decide) (by rw [c38]; decide) (by rw [c38]; rfl) rfl ?_
        refine lv_aload_n X.1 X.2.1 (dck_at da_L_law_23 10 rfl) rfl (lv_at hl 1 rfl) ?_
        refine lv_aload_n X.1 X.2.1 (dck_at da_L_law_23 11 rfl) rfl (lv_at hl 0 rfl) ?_
        refine lv_iload_n X.1 X.2.1 (dck_at da_L_law_23 12 rfl) rfl (lv_at hl 3 rfl) ?_
        refine lv_iconst X.1 X.2.1 (dck_at da_L_law_23 13 rfl) ki_1 ?_
        refine lv_iadd X.1 X.2.1 (dck_at da_L_law_23 14 rfl) ?_
        refine va_sld X.1 X.2.1 hX hbl hbA hSf h1 (dck_at da_L_law_23 15 rfl) ?_
        refine lv_aload_n X.1 X.2.1 (dck_at da_L_law_23 16 rfl) rfl (lv_at hl 0 rfl) ?_
        refine lv_iload_n X.1 X.2.1 (dck_at da_L_law_23 17 rfl) rfl (lv_at hl 3 rfl) ?_
        refine lv_iconst X.1 X.2.1 (dck_at da_L_law_23 18 rfl) ki_2 ?_
        refine lv_iadd X.1 X.2.1 (dck_at da_L_law_23 19 rfl) ?_
        refine va_sld X.1 X.2.1 hX hbl hbA hSf h2 (dck_at da_L_law_23 20 rfl) ?_
        refine lv_aload_n X.1 X.2.1 (dck_at da_L_law_23 21 rfl) rfl (lv_at hl 0 rfl) ?_
        refine lv_iload_n X.1 X.2.1 (dck_at da_L_law_23 22 rfl) rfl (lv_at hl 3 rfl) ?_
        refine lv_iconst X.1 X.2.1 (dck_at da_L_law_23 23 rfl) ki_3 ?_
        refine lv_iadd X.1 X.2.1 (dck_at da_L_law_23 24 rfl) ?_
        refine va_sld X.1 X.2.1 hX hbl hbA hSf h3 (dck_at da_L_law_23 25 rfl) ?_
        refine lv_aload_n X.1 X.2.1 (dck_at da_L_law_23 26 rfl) rfl (lv_at hl 0 rfl) ?_
        refine lv_iload_n X.1 X.2.1 (dck_at da_L_law_23 27 rfl) rfl (lv_at hl 3 rfl) ?_
        refine lv_iconst X.1 X.2.1 (dck_at da_L_law_23 28 rfl) ki_4 ?_
        refine lv_iadd X.1 X.2.1 (dck_at da_L_law_23 29 rfl) ?_
        refine va_sld X.1 X.2.1 hX hbl hbA hSf h4 (dck_at da_L_law_23 30 rfl) ?_
        refine lw_backi (lw_runV (as := [.int (xs (x3 + (1 : Int32)).toNatClampNeg), .int (xs (x3 + (2 : Int32)).toNatClampNeg), .int (xs (x3 + (3 : Int32)).toNatClampNeg), .int (xs (x3 + (4 : Int32)).toNatClampNeg)]) (rest := []) X FC PC hz hfr (ok_c_finds eC) cv_RL_176 clC_0 ⟨Nat.le_of_ble_eq_true rfl, Nat.le_of_ble_eq_true rfl⟩ rfl hl.1 (Nat.le_of_ble_eq_true rfl) (dck_at da_L_law_23 31 rfl) ⟨Nat.le_of_ble_eq_true rfl, Nat.le_of_ble_eq_true rfl⟩) hnC PM rfl hapC hz hfr (fun H PC PM hz hfr => ?_)
        have hSf : va_S (fun q : Nat => s.heap.size ≤ q) s.heap H [] := ⟨hz, fun q h _ => hfr q h, fun _ h => by cases h⟩
        refine lv_aload_n X.1 X.2.1 (dck_at da_L_law_23 32 rfl) rfl (lv_at hl 2 rfl) ?_
        refine lv_aload_n X.1 X.2.1 (dck_at da_L_law_23 33 rfl) rfl (lv_at hl 0 rfl) ?_
        refine lv_iload_n X.1 X.2.1 (dck_at da_L_law_23 34 rfl) rfl (lv_at hl 3 rfl) ?_
        refine lv_iconst X.1 X.2.1 (dck_at da_L_law_23 35 rfl) ki_1 ?_
        refine lv_iadd X.1 X.2.1 (dck_at da_L_law_23 36 rfl) ?_
        refine va_sld X.1 X.2.1 hX hbl hbA hSf h1 (dck_at da_L_law_23 37 rfl) ?_
        refine lv_aload_n X.1 X.2.1 (dck_at da_L_law_23 38 rfl) rfl (lv_at hl 0 rfl) ?_
        refine lv_iload_n X.1 X.2.1 (dck_at da_L_law_23 39 rfl) rfl (lv_at hl 3 rfl) ?_
        refine lv_iconst X.1 X.2.1 (dck_at da_L_law_24 0 rfl) ki_2 ?_
        refine lv_iadd X.1 X.2.1 (dck_at da_L_law_24 1 rfl) ?_
        refine va_sld X.1 X.2.1 hX hbl hbA hSf h2 (dck_at da_L_law_24 2 rfl) ?_
        refine lv_aload_n X.1 X.2.1 (dck_at da_L_law_24 3 rfl) rfl (lv_at hl 0 rfl) ?_
        refine lv_iload_n X.1 X.2.1 (dck_at da_L_law_24 4 rfl) rfl (lv_at hl 3 rfl) ?_
        refine lv_iconst X.1 X.2.1 (dck_at da_L_law_24 5 rfl) ki_3 ?_
        refine lv_iadd X.1 X.2.1 (dck_at da_L_law_24 6 rfl) ?_
        refine va_sld X.1 X.2.1 hX hbl hbA hSf h3 (dck_at da_L_law_24 7 rfl) ?_
        refine lv_aload_n X.1 X.2.1 (dck_at da_L_law_24 8 rfl) rfl (lv_at hl 0 rfl) ?_
        refine lv_iload_n X.1 X.2.1 (dck_at da_L_law_24 9 rfl) rfl (lv_at hl 3 rfl) ?_
        refine lv_iconst X.1 X.2.1 (dck_at da_L_law_24 10 rfl) ki_4 ?_
        refine lv_iadd X.1 X.2.1 (dck_at da_L_law_24 11 rfl) ?_
        refine va_sld X.1 X.2.1 hX hbl hbA hSf h4 (dck_at da_L_law_24 12 rfl) ?_
        refine lw_backi (lw_runV (as := [.int (xs (x3 + (1 : Int32)).toNatClampNeg), .int (xs (x3 + (2 : Int32)).toNatClampNeg), .int (xs (x3 + (3 : Int32)).toNatClampNeg), .int (xs (x3 + (4 : Int32)).toNatClampNeg)]) (rest := [.int r]) X FM PM hz hfr (ok_m_finds eM) cv_RL_180 clM_0 ⟨Nat.le_of_ble_eq_true rfl, Nat.le_of_ble_eq_true rfl⟩ rfl hl.1 (Nat.le_of_ble_eq_true rfl) (dck_at da_L_law_24 13 rfl) ⟨Nat.le_of_ble_eq_true rfl, Nat.le_of_ble_eq_true rfl⟩) hnM PC rfl hapM hz hfr (fun H PM PC hz hfr => ?_)
        have hSf : va_S (fun q : Nat => s.heap.size ≤ q) s.heap H [] := ⟨hz, fun q h _ => hfr q h, fun _ h => by cases h⟩
        refine lv_icmp_eq (tgt := 1684) X.1 X.2.1 (dck_at da_L_law_24 14 rfl) rfl (fun _ => ?_) (fun c => absurd rfl c)
        exact next σ1 τ1 H hR PC PM hz hfr
      by_cases c39 : w = (39 : Int32)
      · obtain ⟨r, σ1, τ1, eC, eM, hR⟩ := hq.2.2.2.2.2.2.2.2.2.2.2.2.2.2.2.2.2.2.2.2.2.2.2.2.2.2.2.2.2.2.2.2.2.2.2.2.2.2.2.1 (xs (x3 + (1 : Int32)).toNatClampNeg) (xs (x3 + (2 : Int32)).toNatClampNeg) (xs (x3 + (3 : Int32)).toNatClampNeg) (xs (x3 + (4 : Int32)).toNatClampNeg)
        refine lv_tableIn (tgt := 1419) (off := 1386) X.1 X.2.1 (dck_at da_L_law 21 rfl) (by rw [c39]; decide) (by rw [c39]; decide) (by rw [c39]; rfl) rfl ?_
        refine lv_aload_n X.1 X.2.1 (dck_at da_L_law_24 17 rfl) rfl (lv_at hl 1 rfl) ?_
        refine lv_aload_n X.1 X.2.1 (dck_at da_L_law_24 18 rfl) rfl (lv_at hl 0 rfl) ?_
        refine lv_iload_n X.1 X.2.1 (dck_at da_L_law_24 19 rfl) rfl (lv_at hl 3 rfl) ?_
        refine lv_iconst X.1 X.2.1 (dck_at da_L_law_24 20 rfl) ki_1 ?_
        refine lv_iadd X.1 X.2.1 (dck_at da_L_law_24 21 rfl) ?_
        refine va_sld X.1 X.2.1 hX hbl hbA hSf h1 (dck_at da_L_law_24 22 rfl) ?_
        refine lv_aload_n X.1 X.2.1 (dck_at da_L_law_24 23 rfl) rfl (lv_at hl 0 rfl) ?_
        refine lv_iload_n X.1 X.2.1 (dck_at da_L_law_24 24 rfl) rfl (lv_at hl 3 rfl) ?_
        refine lv_iconst X.1 X.2.1 (dck_at da_L_law_24 25 rfl) ki_2 ?_
        refine lv_iadd X.1 X.2.1 (dck_at da_L_law_24 26 rfl) ?_
        refine va_sld X.1 X.2.1 hX hbl hbA hSf h2 (dck_at da_L_law_24 27 rfl) ?_
        refine lv_aload_n X.1 X.2.1 (dck_at da_L_law_24 28 rfl) rfl (lv_at hl 0 rfl) ?_
        refine lv_iload_n X.1 X.2.1 (dck_at da_L_law_24 29 rfl) rfl (lv_at hl 3 rfl) ?_
        refine lv_iconst X.1 X.2.1 (dck_at da_L_law_24 30 rfl) ki_3 ?_
        refine lv_iadd X.1 X.2.1 (dck_at da_L_law_24 31 rfl) ?_
        refine va_sld X.1 X.2.1 hX hbl hbA hSf h3 (dck_at da_L_law_24 32 rfl) ?_
        refine lv_aload_n X.1 X.2.1 (dck_at da_L_law_24 33 rfl) rfl (lv_at hl 0 rfl) ?_
        refine lv_iload_n X.1 X.2.1 (dck_at da_L_law_24 34 rfl) rfl (lv_at hl 3 rfl) ?_
        refine lv_iconst X.1 X.2.1 (dck_at da_L_law_24 35 rfl) ki_4 ?_
        refine lv_iadd X.1 X.2.1 (dck_at da_L_law_24 36 rfl) ?_
        refine va_sld X.1 X.2.1 hX hbl hbA hSf h4 (dck_at da_L_law_24 37 rfl) ?_
        refine lw_backi (lw_runV (as := [.int (xs (x3 + (1 : Int32)).toNatClampNeg), .int (xs (x3 + (2 : Int32)).toNatClampNeg), .int (xs (x3 + (3 : Int32)).toNatClampNeg), .int (xs (x3 + (4 : Int32)).toNatClampNeg)]) (rest := []) X FC PC hz hfr (ok_c_film eC) cv_RL_181 clC_0 ⟨Nat.le_of_ble_eq_true rfl, Nat.le_of_ble_eq_true rfl⟩ rfl hl.1 (Nat.le_of_ble_eq_true rfl) (dck_at da_L_law_24 38 rfl) ⟨Nat.le_of_ble_eq_true rfl, Nat.le_of_ble_eq_true rfl⟩) hnC PM rfl hapC hz hfr (fun H PC PM hz hfr => ?_)
        have hSf : va_S (fun q : Nat => s.heap.size ≤ q) s.heap H [] := ⟨hz, fun q h _ => hfr q h, fun _ h => by cases h⟩
        refine lv_aload_n X.1 X.2.1 (dck_at da_L_law_24 39 rfl) rfl (lv_at hl 2 rfl) ?_
        refine lv_aload_n X.1 X.2.1 (dck_at da_L_law_25 0 rfl) rfl (lv_at hl 0 rfl) ?_
        refine lv_iload_n X.1 X.2.1 (dck_at da_L_law_25 1 rfl) rfl (lv_at hl 3 rfl) ?_
        refine lv_iconst X.1 X.2.1 (dck_at da_L_law_25 2 rfl) ki_1 ?_
        refine lv_iadd X.1 X.2.1 (dck_at da_L_law_25 3 rfl) ?_
        refine va_sld X.1 X.2.1 hX hbl hbA hSf h1 (dck_at da_L_law_25 4 rfl) ?_
        refine lv_aload_n X.1 X.2.1 (dck_at da_L_law_25 5 rfl) rfl (lv_at hl 0 rfl) ?_
        refine lv_iload_n X.1 X.2.1 (dck_at da_L_law_25 6 rfl) rfl (lv_at hl 3 rfl) ?_
        refine lv_iconst X.1 X.2.1 (dck_at da_L_law_25 7 rfl) ki_2 ?_
        refine lv_iadd X.1 X.2.1 (dck_at da_L_law_25 8 rfl) ?_
        refine va_sld X.1 X.2.1 hX hbl hbA hSf h2 (dck_at da_L_law_25 9 rfl) ?_
        refine lv_aload_n X.1 X.2.1 (dck_at da_L_law_25 10 rfl) rfl (lv_at hl 0 rfl) ?_
        refine lv_iload_n X.1 X.2.1 (dck_at da_L_law_25 11 rfl) rfl (lv_at hl 3 rfl) ?_
        refine lv_iconst X.1 X.2.1 (dck_at da_L_law_25 12 rfl) ki_3 ?_
        refine lv_iadd X.1 X.2.1 (dck_at da_L_law_25 13 rfl) ?_
        refine va_sld X.1 X.2.1 hX hbl hbA hSf h3 (dck_at da_L_law_25 14 rfl) ?_
        refine lv_aload_n X.1 X.2.1 (dck_at da_L_law_25 15 rfl) rfl (lv_at hl 0 rfl) ?_
        refine lv_iload_n X.1 X.2.1 (dck_at da_L_law_25 16 rfl) rfl (lv_at hl 3 rfl) ?_
        refine lv_iconst X.1 X.2.1 (dck_at da_L_law_25 17 rfl) ki_4 ?_
        refine lv_iadd X.1 X.2.1 (dck_at da_L_law_25 18 rfl) ?_
        refine va_sld X.1 X.2.1 hX hbl hbA hSf h4 (dck_at da_L_law_25 19 rfl) ?_
        refine lw_backi (lw_runV (as := [.int (xs (x3 + (1 : Int32)).toNatClampNeg), .int (xs (x3 + (2 : Int32)).toNatClampNeg), .int (xs (x3 + (3 : Int32)).toNatClampNeg), .int (xs (x3 + (4 : Int32)).toNatClampNeg)]) (rest := [.int r]) X FM PM hz hfr (ok_m_film eM) cv_RL_184 clM_0 ⟨Nat.le_of_ble_eq_true rfl, Nat.le_of_ble_eq_true rfl⟩ rfl hl.1 (Nat.le_of_ble_eq_true rfl) (dck_at da_L_law_25 20 rfl) ⟨Nat.le_of_ble_eq_true rfl, Nat.le_of_ble_eq_true rfl⟩) hnM PC rfl hapM hz hfr (fun H PM PC hz hfr => ?_)
        have hSf : va_S (fun q : Nat => s.heap.size ≤ q) s.heap H [] := ⟨hz, fun q h _ => hfr q h, fun _ h => by cases h⟩
        refine lv_icmp_eq (tgt := 1684) X.1 X.2.1 (dck_at da_L_law_25 21 rfl) rfl (fun _ => ?_) (fun c => absurd rfl c)
        exact next σ1 τ1 H hR PC PM hz hfr
      by_cases c40 : w = (40 : Int32)
      · obtain ⟨r, σ1, τ1, eC, eM, hR⟩ := hq.2.2.2.2.2.2.2.2.2.2.2.2.2.2.2.2.2.2.2.2.2.2.2.2.2.2.2.2.2.2.2.2.2.2.2.2.2.2.2.2.1 (xs (x3 + (1 : Int32)).toNatClampNeg) (xs (x3 + (2 : Int32)).toNatClampNeg) (xs (x3 + (3 : Int32)).toNatClampNeg)
        refine lv_tableIn (tgt := 1472) (off := 1439) X.1 X.2.1 (dck_at da_L_law 21 rfl) (by rw [c40]; decide) (by rw [c40]; decide) (by rw [c40]; rfl) rfl ?_
        refine lv_aload_n X.1 X.2.1 (dck_at da_L_law_25 24 rfl) rfl (lv_at hl 1 rfl) ?_
        refine lv_aload_n X.1 X.2.1 (dck_at da_L_law_25 25 rfl) rfl (lv_at hl 0 rfl) ?_
        refine lv_iload_n X.1 X.2.1 (dck_at da_L_law_25 26 rfl) rfl (lv_at hl 3 rfl) ?_
        refine lv_iconst X.1 X.2.1 (dck_at da_L_law_25 27 rfl) ki_1 ?_
        refine lv_iadd X.1 X.2.1 (dck_at da_L_law_25 28 rfl) ?_
        refine va_sld X.1 X.2.1 hX hbl hbA hSf h1 (dck_at da_L_law_25 29 rfl) ?_
        refine lv_aload_n X.1 X.2.1 (dck_at da_L_law_25 30 rfl) rfl (lv_at hl 0 rfl) ?_
        refine lv_iload_n X.1 X.2.1 (dck_at da_L_law_25 31 rfl) rfl (lv_at hl 3 rfl) ?_
        refine lv_iconst X.1 X.2.1 (dck_at da_L_law_25 32 rfl) ki_2 ?_
        refine lv_iadd X.1 X.2.1 (dck_at da_L_law_25 33 rfl) ?_
        refine va_sld X.1 X.2.1 hX hbl hbA hSf h2 (dck_at da_L_law_25 34 rfl) ?_
        refine lv_aload_n X.1 X.2.1 (dck_at da_L_law_25 35 rfl) rfl (lv_at hl 0 rfl) ?_
        refine lv_iload_n X.1 X.2.1 (dck_at da_L_law_25 36 rfl) rfl (lv_at hl 3 rfl) ?_
        refine lv_iconst X.1 X.2.1 (dck_at da_L_law_25 37 rfl) ki_3 ?_
        refine lv_iadd X.1 X.2.1 (dck_at da_L_law_25 38 rfl) ?_
        refine va_sld X.1 X.2.1 hX hbl hbA hSf h3 (dck_at da_L_law_25 39 rfl) ?_
        refine lw_backi (lw_runV (as := [.int (xs (x3 + (1 : Int32)).toNatClampNeg), .int (xs (x3 + (2 : Int32)).toNatClampNeg), .int (xs (x3 + (3 : Int32)).toNatClampNeg)]) (rest := []) X FC PC hz hfr (ok_c_sheet eC) cv_RL_185 clC_0 ⟨Nat.le_of_ble_eq_true rfl, Nat.le_of_ble_eq_true rfl⟩ rfl hl.1 (Nat.le_of_ble_eq_true rfl) (dck_at da_L_law_26 0 rfl) ⟨Nat.le_of_ble_eq_true rfl, Nat.le_of_ble_eq_true rfl⟩) hnC PM rfl hapC hz hfr (fun H PC PM hz hfr => ?_)
        have hSf : va_S (fun q : Nat => s.heap.size ≤ q) s.heap H [] := ⟨hz, fun q h _ => hfr q h, fun _ h => by cases h⟩
        refine lv_aload_n X.1 X.2.1 (dck_at da_L_law_26 1 rfl) rfl (lv_at hl 2 rfl) ?_
        refine lv_aload_n X.1 X.2.1 (dck_at da_L_law_26 2 rfl) rfl (lv_at hl 0 rfl) ?_
        refine lv_iload_n X.1 X.2.1 (dck_at da_L_law_26 3 rfl) rfl (lv_at hl 3 rfl) ?_
        refine lv_iconst X.1 X.2.1 (dck_at da_L_law_26 4 rfl) ki_1 ?_
        refine lv_iadd X.1 X.2.1 (dck_at da_L_law_26 5 rfl) ?_
        refine va_sld X.1 X.2.1 hX hbl hbA hSf h1 (dck_at da_L_law_26 6 rfl) ?_
        refine lv_aload_n X.1 X.2.1 (dck_at da_L_law_26 7 rfl) rfl (lv_at hl 0 rfl) ?_
        refine lv_iload_n X.1 X.2.1 (dck_at da_L_law_26 8 rfl) rfl (lv_at hl 3 rfl) ?_
        refine lv_iconst X.1 X.2.1 (dck_at da_L_law_26 9 rfl) ki_2 ?_
        refine lv_iadd X.1 X.2.1 (dck_at da_L_law_26 10 rfl) ?_
        refine va_sld X.1 X.2.1 hX hbl hbA hSf h2 (dck_at da_L_law_26 11 rfl) ?_
        refine lv_aload_n X.1 X.2.1 (dck_at da_L_law_26 12 rfl) rfl (lv_at hl 0 rfl) ?_
        refine lv_iload_n X.1 X.2.1 (dck_at da_L_law_26 13 rfl) rfl (lv_at hl 3 rfl) ?_
        refine lv_iconst X.1 X.2.1 (dck_at da_L_law_26 14 rfl) ki_3 ?_
        refine lv_iadd X.1 X.2.1 (dck_at da_L_law_26 15 rfl) ?_
        refine va_sld X.1 X.2.1 hX hbl hbA hSf h3 (dck_at da_L_law_26 16 rfl) ?_
        refine lw_backi (lw_runV (as := [.int (xs (x3 + (1 : Int32)).toNatClampNeg), .int (xs (x3 + (2 : Int32)).toNatClampNeg), .int (xs (x3 + (3 : Int32)).toNatClampNeg)]) (rest := [.int r]) X FM PM hz hfr (ok_m_sheet eM) cv_RL_188 clM_0 ⟨Nat.le_of_ble_eq_true rfl, Nat.le_of_ble_eq_true rfl⟩ rfl hl.1 (Nat.le_of_ble_eq_true rfl) (dck_at da_L_law_26 17 rfl) ⟨Nat.le_of_ble_eq_true rfl, Nat.le_of_ble_eq_true rfl⟩) hnM PC rfl hapM hz hfr (fun H PM PC hz hfr => ?_)
        have hSf : va_S (fun q : Nat => s.heap.size ≤ q) s.heap H [] := ⟨hz, fun q h _ => hfr q h, fun _ h => by cases h⟩
        refine lv_icmp_eq (tgt := 1684) X.1 X.2.1 (dck_at da_L_law_26 18 rfl) rfl (fun _ => ?_) (fun c => absurd rfl c)
        exact next σ1 τ1 H hR PC PM hz hfr
      by_cases c41 : w = (41 : Int32)
      · obtain ⟨r, σ1, τ1, eC, eM, hR⟩ := hq.2.2.2.2.2.2.2.2.2.2.2.2.2.2.2.2.2.2.2.2.2.2.2.2.2.2.2.2.2.2.2.2.2.2.2.2.2.2.2.2.2.1 (xs (x3 + (1 : Int32)).toNatClampNeg)
        refine lv_tableIn (tgt := 1515) (off := 1482) X.1 X.2.1 (dck_at da_L_law 21 rfl) (by rw [c41]; decide) (by rw [c41]; decide) (by rw [c41]; rfl) rfl ?_
        refine lv_aload_n X.1 X.2.1 (dck_at da_L_law_26 21 rfl) rfl (lv_at hl 1 rfl) ?_
        refine lv_aload_n X.1 X.2.1 (dck_at da_L_law_26 22 rfl) rfl (lv_at hl 0 rfl) ?_
        refine lv_iload_n X.1 X.2.1 (dck_at da_L_law_26 23 rfl) rfl (lv_at hl 3 rfl) ?_
        refine lv_iconst X.1 X.2.1 (dck_at da_L_law_26 24 rfl) ki_1 ?_
        refine lv_iadd X.1 X.2.1 (dck_at da_L_law_26 25 rfl) ?_
        refine va_sld X.1 X.2.1 hX hbl hbA hSf h1 (dck_at da_L_law_26 26 rfl) ?_
        refine lw_backi (lw_runV (as := [.int (xs (x3 + (1 : Int32)).toNatClampNeg)]) (rest := []) X FC PC hz hfr (ok_c_drop eC) cv_RL_189 clC_0 ⟨Nat.le_of_ble_eq_true rfl, Nat.le_of_ble_eq_true rfl⟩ rfl hl.1 (Nat.le_of_ble_eq_true rfl) (dck_at da_L_law_26 27 rfl) ⟨Nat.le_of_ble_eq_true rfl, Nat.le_of_ble_eq_true rfl⟩) hnC PM rfl hapC hz hfr (fun H PC PM hz hfr => ?_)
        have hSf : va_S (fun q : Nat => s.heap.size ≤ q) s.heap H [] := ⟨hz, fun q h _ => hfr q h, fun _ h => by cases h⟩
        refine lv_aload_n X.1 X.2.1 (dck_at da_L_law_26 28 rfl) rfl (lv_at hl 2 rfl) ?_
        refine lv_aload_n X.1 X.2.1 (dck_at da_L_law_26 29 rfl) rfl (lv_at hl 0 rfl) ?_
        refine lv_iload_n X.1 X.2.1 (dck_at da_L_law_26 30 rfl) rfl (lv_at hl 3 rfl) ?_
        refine lv_iconst X.1 X.2.1 (dck_at da_L_law_26 31 rfl) ki_1 ?_
        refine lv_iadd X.1 X.2.1 (dck_at da_L_law_26 32 rfl) ?_
        refine va_sld X.1 X.2.1 hX hbl hbA hSf h1 (dck_at da_L_law_26 33 rfl) ?_
        refine lw_backi (lw_runV (as := [.int (xs (x3 + (1 : Int32)).toNatClampNeg)]) (rest := [.int r]) X FM PM hz hfr (ok_m_drop eM) cv_RL_192 clM_0 ⟨Nat.le_of_ble_eq_true rfl, Nat.le_of_ble_eq_true rfl⟩ rfl hl.1 (Nat.le_of_ble_eq_true rfl) (dck_at da_L_law_26 34 rfl) ⟨Nat.le_of_ble_eq_true rfl, Nat.le_of_ble_eq_true rfl⟩) hnM PC rfl hapM hz hfr (fun H PM PC hz hfr => ?_)
        have hSf : va_S (fun q : Nat => s.heap.size ≤ q) s.heap H [] := ⟨hz, fun q h _ => hfr q h, fun _ h => by cases h⟩
        refine lv_icmp_eq (tgt := 1684) X.1 X.2.1 (dck_at da_L_law_26 35 rfl) rfl (fun _ => ?_) (fun c => absurd rfl c)
        exact next σ1 τ1 H hR PC PM hz hfr
      by_cases c42 : w = (42 : Int32)
      · obtain ⟨r, σ1, τ1, eC, eM, hR⟩ := hq.2.2.2.2.2.2.2.2.2.2.2.2.2.2.2.2.2.2.2.2.2.2.2.2.2.2.2.2.2.2.2.2.2.2.2.2.2.2.2.2.2.2.1 (xs (x3 + (1 : Int32)).toNatClampNeg) (xs (x3 + (2 : Int32)).toNatClampNeg) (xs (x3 + (3 : Int32)).toNatClampNeg) (((((xs (x3 + (4 : Int32)).toNatClampNeg)).toInt64) <<< (((32 : Int32)).toInt64 &&& 63)) ||| ((((xs (x3 + (5 : Int32)).toNatClampNeg)).toInt64) &&& (4294967295 : Int64)))
        refine lv_tableIn (tgt := 1538) (off := 1505) X.1 X.2.1 (dck_at da_L_law 21 rfl) (by rw [c42]; decide) (by rw [c42]; decide) (by rw [c42]; rfl) rfl ?_
        refine lv_aload_n X.1 X.2.1 (dck_at da_L_law_26 38 rfl) rfl (lv_at hl 1 rfl) ?_
        refine lv_aload_n X.1 X.2.1 (dck_at da_L_law_26 39 rfl) rfl (lv_at hl 0 rfl) ?_
        refine lv_iload_n X.1 X.2.1 (dck_at da_L_law_27 0 rfl) rfl (lv_at hl 3 rfl) ?_
        refine lv_iconst X.1 X.2.1 (dck_at da_L_law_27 1 rfl) ki_1 ?_
        refine lv_iadd X.1 X.2.1 (dck_at da_L_law_27 2 rfl) ?_
        refine va_sld X.1 X.2.1 hX hbl hbA hSf h1 (dck_at da_L_law_27 3 rfl) ?_
        refine lv_aload_n X.1 X.2.1 (dck_at da_L_law_27 4 rfl) rfl (lv_at hl 0 rfl) ?_
        refine lv_iload_n X.1 X.2.1 (dck_at da_L_law_27 5 rfl) rfl (lv_at hl 3 rfl) ?_
        refine lv_iconst X.1 X.2.1 (dck_at da_L_law_27 6 rfl) ki_2 ?_
        refine lv_iadd X.1 X.2.1 (dck_at da_L_law_27 7 rfl) ?_
        refine va_sld X.1 X.2.1 hX hbl hbA hSf h2 (dck_at da_L_law_27 8 rfl) ?_
        refine lv_aload_n X.1 X.2.1 (dck_at da_L_law_27 9 rfl) rfl (lv_at hl 0 rfl) ?_
        refine lv_iload_n X.1 X.2.1 (dck_at da_L_law_27 10 rfl) rfl (lv_at hl 3 rfl) ?_
        refine lv_iconst X.1 X.2.1 (dck_at da_L_law_27 11 rfl) ki_3 ?_
        refine lv_iadd X.1 X.2.1 (dck_at da_L_law_27 12 rfl) ?_
        refine va_sld X.1 X.2.1 hX hbl hbA hSf h3 (dck_at da_L_law_27 13 rfl) ?_
        refine lv_aload_n X.1 X.2.1 (dck_at da_L_law_27 14 rfl) rfl (lv_at hl 0 rfl) ?_
        refine lv_iload_n X.1 X.2.1 (dck_at da_L_law_27 15 rfl) rfl (lv_at hl 3 rfl) ?_
        refine lv_iconst X.1 X.2.1 (dck_at da_L_law_27 16 rfl) ki_4 ?_
        refine lv_iadd X.1 X.2.1 (dck_at da_L_law_27 17 rfl) ?_
        refine va_sld X.1 X.2.1 hX hbl hbA hSf h4 (dck_at da_L_law_27 18 rfl) ?_
        refine lv_i2l (v := ((xs (x3 + (4 : Int32)).toNatClampNeg)).toInt64) X.1 X.2.1 (dck_at da_L_law_27 19 rfl) rfl ?_
        refine lv_bipush X.1 X.2.1 (dck_at da_L_law_27 20 rfl) kb_32 ?_
        refine lv_lshl (v := (((xs (x3 + (4 : Int32)).toNatClampNeg)).toInt64) <<< (((32 : Int32)).toInt64 &&& 63)) X.1 X.2.1 (dck_at da_L_law_27 21 rfl) rfl ?_
        refine lv_aload_n X.1 X.2.1 (dck_at da_L_law_27 22 rfl) rfl (lv_at hl 0 rfl) ?_
        refine lv_iload_n X.1 X.2.1 (dck_at da_L_law_27 23 rfl) rfl (lv_at hl 3 rfl) ?_
        refine lv_iconst X.1 X.2.1 (dck_at da_L_law_27 24 rfl) ki_5 ?_
        refine lv_iadd X.1 X.2.1 (dck_at da_L_law_27 25 rfl) ?_
        refine va_sld X.1 X.2.1 hX hbl hbA hSf h5 (dck_at da_L_law_27 26 rfl) ?_
        refine lv_i2l (v := ((xs (x3 + (5 : Int32)).toNatClampNeg)).toInt64) X.1 X.2.1 (dck_at da_L_law_27 27 rfl) rfl ?_
        refine lv_ldc2 X.1 X.2.1 X.2.2.2.1 (X.2.2.2.2 _ wm_1630) (dck_at da_L_law_27 28 rfl) ?_
        refine lv_land X.1 X.2.1 (dck_at da_L_law_27 29 rfl) ?_
        refine lv_lor X.1 X.2.1 (dck_at da_L_law_27 30 rfl) ?_
        refine lw_backi (lw_runV (as := [.int (xs (x3 + (1 : Int32)).toNatClampNeg), .int (xs (x3 + (2 : Int32)).toNatClampNeg), .int (xs (x3 + (3 : Int32)).toNatClampNeg), .long (((((xs (x3 + (4 : Int32)).toNatClampNeg)).toInt64) <<< (((32 : Int32)).toInt64 &&& 63)) ||| ((((xs (x3 + (5 : Int32)).toNatClampNeg)).toInt64) &&& (4294967295 : Int64)))]) (rest := []) X FC PC hz hfr (ok_c_item eC) cv_RL_193 clC_0 ⟨Nat.le_of_ble_eq_true rfl, Nat.le_of_ble_eq_true rfl⟩ rfl hl.1 (Nat.le_of_ble_eq_true rfl) (dck_at da_L_law_27 31 rfl) ⟨Nat.le_of_ble_eq_true rfl, Nat.le_of_ble_eq_true rfl⟩) hnC PM rfl hapC hz hfr (fun H PC PM hz hfr => ?_)
        have hSf : va_S (fun q : Nat => s.heap.size ≤ q) s.heap H [] := ⟨hz, fun q h _ => hfr q h, fun _ h => by cases h⟩
        refine lv_aload_n X.1 X.2.1 (dck_at da_L_law_27 32 rfl) rfl (lv_at hl 2 rfl) ?_
        refine lv_aload_n X.1 X.2.1 (dck_at da_L_law_27 33 rfl) rfl (lv_at hl 0 rfl) ?_
        refine lv_iload_n X.1 X.2.1 (dck_at da_L_law_27 34 rfl) rfl (lv_at hl 3 rfl) ?_
        refine lv_iconst X.1 X.2.1 (dck_at da_L_law_27 35 rfl) ki_1 ?_
        refine lv_iadd X.1 X.2.1 (dck_at da_L_law_27 36 rfl) ?_
        refine va_sld X.1 X.2.1 hX hbl hbA hSf h1 (dck_at da_L_law_27 37 rfl) ?_
        refine lv_aload_n X.1 X.2.1 (dck_at da_L_law_27 38 rfl) rfl (lv_at hl 0 rfl) ?_
        refine lv_iload_n X.1 X.2.1 (dck_at da_L_law_27 39 rfl) rfl (lv_at hl 3 rfl) ?_
        refine lv_iconst X.1 X.2.1 (dck_at da_L_law_28 0 rfl) ki_2 ?_
        refine lv_iadd X.1 X.2.1 (dck_at da_L_law_28 1 rfl) ?_
        refine va_sld X.1 X.2.1 hX hbl hbA hSf h2 (dck_at da_L_law_28 2 rfl) ?_
        refine lv_aload_n X.1 X.2.1 (dck_at da_L_law_28 3 rfl) rfl (lv_at hl 0 rfl) ?_
        refine lv_iload_n X.1 X.2.1 (dck_at da_L_law_28 4 rfl) rfl (lv_at hl 3 rfl) ?_
        refine lv_iconst X.1 X.2.1 (dck_at da_L_law_28 5 rfl) ki_3 ?_
        refine lv_iadd X.1 X.2.1 (dck_at da_L_law_28 6 rfl) ?_
        refine va_sld X.1 X.2.1 hX hbl hbA hSf h3 (dck_at da_L_law_28 7 rfl) ?_
        refine lv_aload_n X.1 X.2.1 (dck_at da_L_law_28 8 rfl) rfl (lv_at hl 0 rfl) ?_
        refine lv_iload_n X.1 X.2.1 (dck_at da_L_law_28 9 rfl) rfl (lv_at hl 3 rfl) ?_
        refine lv_iconst X.1 X.2.1 (dck_at da_L_law_28 10 rfl) ki_4 ?_
        refine lv_iadd X.1 X.2.1 (dck_at da_L_law_28 11 rfl) ?_
        refine va_sld X.1 X.2.1 hX hbl hbA hSf h4 (dck_at da_L_law_28 12 rfl) ?_
        refine lv_i2l (v := ((xs (x3 + (4 : Int32)).toNatClampNeg)).toInt64) X.1 X.2.1 (dck_at da_L_law_28 13 rfl) rfl ?_
        refine lv_bipush X.1 X.2.1 (dck_at da_L_law_28 14 rfl) kb_32 ?_
        refine lv_lshl (v := (((xs (x3 + (4 : Int32)).toNatClampNeg)).toInt64) <<< (((32 : Int32)).toInt64 &&& 63)) X.1 X.2.1 (dck_at da_L_law_28 15 rfl) rfl ?_
        refine lv_aload_n X.1 X.2.1 (dck_at da_L_law_28 16 rfl) rfl (lv_at hl 0 rfl) ?_
        refine lv_iload_n X.1 X.2.1 (dck_at da_L_law_28 17 rfl) rfl (lv_at hl 3 rfl) ?_
        refine lv_iconst X.1 X.2.1 (dck_at da_L_law_28 18 rfl) ki_5 ?_
        refine lv_iadd X.1 X.2.1 (dck_at da_L_law_28 19 rfl) ?_
        refine va_sld X.1 X.2.1 hX hbl hbA hSf h5 (dck_at da_L_law_28 20 rfl) ?_
        refine lv_i2l (v := ((xs (x3 + (5 : Int32)).toNatClampNeg)).toInt64) X.1 X.2.1 (dck_at da_L_law_28 21 rfl) rfl ?_
        refine lv_ldc2 X.1 X.2.1 X.2.2.2.1 (X.2.2.2.2 _ wm_1630) (dck_at da_L_law_28 22 rfl) ?_
        refine lv_land X.1 X.2.1 (dck_at da_L_law_28 23 rfl) ?_
        refine lv_lor X.1 X.2.1 (dck_at da_L_law_28 24 rfl) ?_
        refine lw_backi (lw_runV (as := [.int (xs (x3 + (1 : Int32)).toNatClampNeg), .int (xs (x3 + (2 : Int32)).toNatClampNeg), .int (xs (x3 + (3 : Int32)).toNatClampNeg), .long (((((xs (x3 + (4 : Int32)).toNatClampNeg)).toInt64) <<< (((32 : Int32)).toInt64 &&& 63)) ||| ((((xs (x3 + (5 : Int32)).toNatClampNeg)).toInt64) &&& (4294967295 : Int64)))]) (rest := [.int r]) X FM PM hz hfr (ok_m_item eM) cv_RL_197 clM_0 ⟨Nat.le_of_ble_eq_true rfl, Nat.le_of_ble_eq_true rfl⟩ rfl hl.1 (Nat.le_of_ble_eq_true rfl) (dck_at da_L_law_28 25 rfl) ⟨Nat.le_of_ble_eq_true rfl, Nat.le_of_ble_eq_true rfl⟩) hnM PC rfl hapM hz hfr (fun H PM PC hz hfr => ?_)
        have hSf : va_S (fun q : Nat => s.heap.size ≤ q) s.heap H [] := ⟨hz, fun q h _ => hfr q h, fun _ h => by cases h⟩
        refine lv_icmp_eq (tgt := 1684) X.1 X.2.1 (dck_at da_L_law_28 26 rfl) rfl (fun _ => ?_) (fun c => absurd rfl c)
        exact next σ1 τ1 H hR PC PM hz hfr
      by_cases c43 : w = (43 : Int32)
      · obtain ⟨r, σ1, τ1, eC, eM, hR⟩ := hq.2.2.2.2.2.2.2.2.2.2.2.2.2.2.2.2.2.2.2.2.2.2.2.2.2.2.2.2.2.2.2.2.2.2.2.2.2.2.2.2.2.2.2 (xs (x3 + (1 : Int32)).toNatClampNeg) (xs (x3 + (2 : Int32)).toNatClampNeg) (xs (x3 + (3 : Int32)).toNatClampNeg) (xs (x3 + (4 : Int32)).toNatClampNeg) (xs (x3 + (5 : Int32)).toNatClampNeg)
        refine lv_tableIn (tgt := 1621) (off := 1588) X.1 X.2.1 (dck_at da_L_law 21 rfl) (by rw [c43]; decide) (by rw [c43]; decide) (by rw [c43]; rfl) rfl ?_
        refine lv_aload_n X.1 X.2.1 (dck_at da_L_law_28 29 rfl) rfl (lv_at hl 1 rfl) ?_
        refine lv_aload_n X.1 X.2.1 (dck_at da_L_law_28 30 rfl) rfl (lv_at hl 0 rfl) ?_
        refine lv_iload_n X.1 X.2.1 (dck_at da_L_law_28 31 rfl) rfl (lv_at hl 3 rfl) ?_
        refine lv_iconst X.1 X.2.1 (dck_at da_L_law_28 32 rfl) ki_1 ?_
        refine lv_iadd X.1 X.2.1 (dck_at da_L_law_28 33 rfl) ?_
        refine va_sld X.1 X.2.1 hX hbl hbA hSf h1 (dck_at da_L_law_28 34 rfl) ?_
        refine lv_aload_n X.1 X.2.1 (dck_at da_L_law_28 35 rfl) rfl (lv_at hl 0 rfl) ?_
        refine lv_iload_n X.1 X.2.1 (dck_at da_L_law_28 36 rfl) rfl (lv_at hl 3 rfl) ?_
        refine lv_iconst X.1 X.2.1 (dck_at da_L_law_28 37 rfl) ki_2 ?_
        refine lv_iadd X.1 X.2.1 (dck_at da_L_law_28 38 rfl) ?_
        refine va_sld X.1 X.2.1 hX hbl hbA hSf h2 (dck_at da_L_law_28 39 rfl) ?_
        refine lv_aload_n X.1 X.2.1 (dck_at da_L_law_29 0 rfl) rfl (lv_at hl 0 rfl) ?_
        refine lv_iload_n X.1 X.2.1 (dck_at da_L_law_29 1 rfl) rfl (lv_at hl 3 rfl) ?_
        refine lv_iconst X.1 X.2.1 (dck_at da_L_law_29 2 rfl) ki_3 ?_
        refine lv_iadd X.1 X.2.1 (dck_at da_L_law_29 3 rfl) ?_
        refine va_sld X.1 X.2.1 hX hbl hbA hSf h3 (dck_at da_L_law_29 4 rfl) ?_
        refine lv_aload_n X.1 X.2.1 (dck_at da_L_law_29 5 rfl) rfl (lv_at hl 0 rfl) ?_
        refine lv_iload_n X.1 X.2.1 (dck_at da_L_law_29 6 rfl) rfl (lv_at hl 3 rfl) ?_
        refine lv_iconst X.1 X.2.1 (dck_at da_L_law_29 7 rfl) ki_4 ?_
        refine lv_iadd X.1 X.2.1 (dck_at da_L_law_29 8 rfl) ?_
        refine va_sld X.1 X.2.1 hX hbl hbA hSf h4 (dck_at da_L_law_29 9 rfl) ?_
        refine lv_aload_n X.1 X.2.1 (dck_at da_L_law_29 10 rfl) rfl (lv_at hl 0 rfl) ?_
        refine lv_iload_n X.1 X.2.1 (dck_at da_L_law_29 11 rfl) rfl (lv_at hl 3 rfl) ?_
        refine lv_iconst X.1 X.2.1 (dck_at da_L_law_29 12 rfl) ki_5 ?_
        refine lv_iadd X.1 X.2.1 (dck_at da_L_law_29 13 rfl) ?_
        refine va_sld X.1 X.2.1 hX hbl hbA hSf h5 (dck_at da_L_law_29 14 rfl) ?_
        refine lw_backi (lw_runV (as := [.int (xs (x3 + (1 : Int32)).toNatClampNeg), .int (xs (x3 + (2 : Int32)).toNatClampNeg), .int (xs (x3 + (3 : Int32)).toNatClampNeg), .int (xs (x3 + (4 : Int32)).toNatClampNeg), .int (xs (x3 + (5 : Int32)).toNatClampNeg)]) (rest := []) X FC PC hz hfr (ok_c_copy eC) cv_RL_198 clC_0 ⟨Nat.le_of_ble_eq_true rfl, Nat.le_of_ble_eq_true rfl⟩ rfl hl.1 (Nat.le_of_ble_eq_true rfl) (dck_at da_L_law_29 15 rfl) ⟨Nat.le_of_ble_eq_true rfl, Nat.le_of_ble_eq_true rfl⟩) hnC PM rfl hapC hz hfr (fun H PC PM hz hfr => ?_)
        have hSf : va_S (fun q : Nat => s.heap.size ≤ q) s.heap H [] := ⟨hz, fun q h _ => hfr q h, fun _ h => by cases h⟩
        refine lv_aload_n X.1 X.2.1 (dck_at da_L_law_29 16 rfl) rfl (lv_at hl 2 rfl) ?_
        refine lv_aload_n X.1 X.2.1 (dck_at da_L_law_29 17 rfl) rfl (lv_at hl 0 rfl) ?_
        refine lv_iload_n X.1 X.2.1 (dck_at da_L_law_29 18 rfl) rfl (lv_at hl 3 rfl) ?_
        refine lv_iconst X.1 X.2.1 (dck_at da_L_law_29 19 rfl) ki_1 ?_
        refine lv_iadd X.1 X.2.1 (dck_at da_L_law_29 20 rfl) ?_
        refine va_sld X.1 X.2.1 hX hbl hbA hSf h1 (dck_at da_L_law_29 21 rfl) ?_
        refine lv_aload_n X.1 X.2.1 (dck_at da_L_law_29 22 rfl) rfl (lv_at hl 0 rfl) ?_
        refine lv_iload_n X.1 X.2.1 (dck_at da_L_law_29 23 rfl) rfl (lv_at hl 3 rfl) ?_
        refine lv_iconst X.1 X.2.1 (dck_at da_L_law_29 24 rfl) ki_2 ?_
        refine lv_iadd X.1 X.2.1 (dck_at da_L_law_29 25 rfl) ?_
        refine va_sld X.1 X.2.1 hX hbl hbA hSf h2 (dck_at da_L_law_29 26 rfl) ?_
        refine lv_aload_n X.1 X.2.1 (dck_at da_L_law_29 27 rfl) rfl (lv_at hl 0 rfl) ?_
        refine lv_iload_n X.1 X.2.1 (dck_at da_L_law_29 28 rfl) rfl (lv_at hl 3 rfl) ?_
        refine lv_iconst X.1 X.2.1 (dck_at da_L_law_29 29 rfl) ki_3 ?_
        refine lv_iadd X.1 X.2.1 (dck_at da_L_law_29 30 rfl) ?_
        refine va_sld X.1 X.2.1 hX hbl hbA hSf h3 (dck_at da_L_law_29 31 rfl) ?_
        refine lv_aload_n X.1 X.2.1 (dck_at da_L_law_29 32 rfl) rfl (lv_at hl 0 rfl) ?_
        refine lv_iload_n X.1 X.2.1 (dck_at da_L_law_29 33 rfl) rfl (lv_at hl 3 rfl) ?_
        refine lv_iconst X.1 X.2.1 (dck_at da_L_law_29 34 rfl) ki_4 ?_
        refine lv_iadd X.1 X.2.1 (dck_at da_L_law_29 35 rfl) ?_
        refine va_sld X.1 X.2.1 hX hbl hbA hSf h4 (dck_at da_L_law_29 36 rfl) ?_
        refine lv_aload_n X.1 X.2.1 (dck_at da_L_law_29 37 rfl) rfl (lv_at hl 0 rfl) ?_
        refine lv_iload_n X.1 X.2.1 (dck_at da_L_law_29 38 rfl) rfl (lv_at hl 3 rfl) ?_
        refine lv_iconst X.1 X.2.1 (dck_at da_L_law_29 39 rfl) ki_5 ?_
        refine lv_iadd X.1 X.2.1 (dck_at da_L_law_30 0 rfl) ?_
        refine va_sld X.1 X.2.1 hX hbl hbA hSf h5 (dck_at da_L_law_30 1 rfl) ?_
        refine lw_backi (lw_runV (as := [.int (xs (x3 + (1 : Int32)).toNatClampNeg), .int (xs (x3 + (2 : Int32)).toNatClampNeg), .int (xs (x3 + (3 : Int32)).toNatClampNeg), .int (xs (x3 + (4 : Int32)).toNatClampNeg), .int (xs (x3 + (5 : Int32)).toNatClampNeg)]) (rest := [.int r]) X FM PM hz hfr (ok_m_copy eM) cv_RL_202 clM_0 ⟨Nat.le_of_ble_eq_true rfl, Nat.le_of_ble_eq_true rfl⟩ rfl hl.1 (Nat.le_of_ble_eq_true rfl) (dck_at da_L_law_30 2 rfl) ⟨Nat.le_of_ble_eq_true rfl, Nat.le_of_ble_eq_true rfl⟩) hnM PC rfl hapM hz hfr (fun H PM PC hz hfr => ?_)
        have hSf : va_S (fun q : Nat => s.heap.size ≤ q) s.heap H [] := ⟨hz, fun q h _ => hfr q h, fun _ h => by cases h⟩
        refine lv_icmp_eq (tgt := 1684) X.1 X.2.1 (dck_at da_L_law_30 3 rfl) rfl (fun _ => ?_) (fun c => absurd rfl c)
        exact next σ1 τ1 H hR PC PM hz hfr
      refine lv_tableOut (tgt := 1684) X.1 X.2.1 (dck_at da_L_law 21 rfl) (by have t0 := lv_neT (a := 0) c0 rfl; have t1 := lv_neT (a := 1) c1 rfl; have t2 := lv_neT (a := 2) c2 rfl; have t3 := lv_neT (a := 3) c3 rfl; have t4 := lv_neT (a := 4) c4 rfl; have t5 := lv_neT (a := 5) c5 rfl; have t6 := lv_neT (a := 6) c6 rfl; have t7 := lv_neT (a := 7) c7 rfl; have t8 := lv_neT (a := 8) c8 rfl; have t9 := lv_neT (a := 9) c9 rfl; have t10 := lv_neT (a := 10) c10 rfl; have t11 := lv_neT (a := 11) c11 rfl; have t12 := lv_neT (a := 12) c12 rfl; have t13 := lv_neT (a := 13) c13 rfl; have t14 := lv_neT (a := 14) c14 rfl; have t15 := lv_neT (a := 15) c15 rfl; have t16 := lv_neT (a := 16) c16 rfl; have t17 := lv_neT (a := 17) c17 rfl; have t18 := lv_neT (a := 18) c18 rfl; have t19 := lv_neT (a := 19) c19 rfl; have t20 := lv_neT (a := 20) c20 rfl; have t21 := lv_neT (a := 21) c21 rfl; have t22 := lv_neT (a := 22) c22 rfl; have t23 := lv_neT (a := 23) c23 rfl; have t24 := lv_neT (a := 24) c24 rfl; have t25 := lv_neT (a := 25) c25 rfl; have t26 := lv_neT (a := 26) c26 rfl; have t27 := lv_neT (a := 27) c27 rfl; have t28 := lv_neT (a := 28) c28 rfl; have t29 := lv_neT (a := 29) c29 rfl; have t30 := lv_neT (a := 30) c30 rfl; have t31 := lv_neT (a := 31) c31 rfl; have t32 := lv_neT (a := 32) c32 rfl; have t33 := lv_neT (a := 33) c33 rfl; have t34 := lv_neT (a := 34) c34 rfl; have t35 := lv_neT (a := 35) c35 rfl; have t36 := lv_neT (a := 36) c36 rfl; have t37 := lv_neT (a := 37) c37 rfl; have t38 := lv_neT (a := 38) c38 rfl; have t39 := lv_neT (a := 39) c39 rfl; have t40 := lv_neT (a := 40) c40 rfl; have t41 := lv_neT (a := 41) c41 rfl; have t42 := lv_neT (a := 42) c42 rfl; have t43 := lv_neT (a := 43) c43 rfl; omega) rfl ?_
      exact next σ τ H (HP2 n σ τ (by omega) hR) PC PM hz hfr
