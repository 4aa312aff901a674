/-! the start: what the Statement gives, the two objects, the loop -/
theorem wm_70 : (Jvm.Cond.instantiable "SheGoesOut" (7 : Nat)) ∈ gw := gw_at 70 (by decide +kernel) (by decide +kernel)
theorem wm_1144 : (Jvm.Cond.instantiable "SheGoesOutModel" (42 : Nat)) ∈ gw := gw_at 1144 (by decide +kernel) (by decide +kernel)
theorem wm_69 : (Jvm.Cond.classLink "SheGoesOutLaw" (7 : Nat) "SheGoesOut") ∈ gw := gw_at 69 (by decide +kernel) (by decide +kernel)
theorem wm_73 : (Jvm.Cond.code ({ cls := "SheGoesOut", name := "<init>", desc := "()V" } : Jvm.MethodName) prog_1_method_1_code (1 : Nat) (Option.none : Option Jvm.ClassFile.FieldType)) ∈ gw := gw_at 73 (by decide +kernel) (by decide +kernel)
theorem wm_71 : (Jvm.Cond.methodLink "SheGoesOutLaw" (9 : Nat) ({ cls := "SheGoesOut", name := "<init>", desc := "()V" } : Jvm.MethodName)) ∈ gw := gw_at 71 (by decide +kernel) (by decide +kernel)
theorem wm_72 : (Jvm.Cond.instanceMethod ({ cls := "SheGoesOut", name := "<init>", desc := "()V" } : Jvm.MethodName)) ∈ gw := gw_at 72 (by decide +kernel) (by decide +kernel)
theorem wm_1143 : (Jvm.Cond.classLink "SheGoesOutLaw" (10 : Nat) "SheGoesOutModel") ∈ gw := gw_at 1143 (by decide +kernel) (by decide +kernel)
theorem wm_1147 : (Jvm.Cond.code ({ cls := "SheGoesOutModel", name := "<init>", desc := "()V" } : Jvm.MethodName) prog_14_method_3_code (2 : Nat) (Option.none : Option Jvm.ClassFile.FieldType)) ∈ gw := gw_at 1147 (by decide +kernel) (by decide +kernel)
theorem wm_1145 : (Jvm.Cond.methodLink "SheGoesOutLaw" (12 : Nat) ({ cls := "SheGoesOutModel", name := "<init>", desc := "()V" } : Jvm.MethodName)) ∈ gw := gw_at 1145 (by decide +kernel) (by decide +kernel)
theorem wm_1146 : (Jvm.Cond.instanceMethod ({ cls := "SheGoesOutModel", name := "<init>", desc := "()V" } : Jvm.MethodName)) ∈ gw := gw_at 1146 (by decide +kernel) (by decide +kernel)
set_option maxRecDepth 100000 in
set_option maxHeartbeats 16000000 in
theorem gSF_start {s : State} {b : Nat} (hts : ∀ w ∈ lw_tbl, w.before #[Value.ref b] s = true) (hgv : (Jvm.Cond.and given_1 narrow_1).before #[Value.ref b] s = true) : ∃ sa : Nat → Nat, gSF sa (fun q : Nat => s.heap.size ≤ q) s s.heap := by
  have hs := flat_of_before _ hgv
  have hA : ∀ a : Nat, a < s.heap.size → ¬ (fun q : Nat => s.heap.size ≤ q) a := fun a h => Nat.not_le.mpr h
  have m0 : ∀ j : Nat, j < 32 → Cond.eq (.elem (.static "SheGoesOut$Law" "SIGHTS" "[I") (.int (Int32.ofNat j))) (.int (gSights j)) ∈ flatC (Jvm.Cond.and given_1 narrow_1) := by decide +kernel
  have m1 : ∀ j : Nat, j < 4 → Cond.eq (.elem (.static "SheGoesOut$Night" "TURNS" "[I") (.int (Int32.ofNat j))) (.int (gTurns j)) ∈ flatC (Jvm.Cond.and given_1 narrow_1) := by decide +kernel
  obtain ⟨t0, e0, T0⟩ := va_Tof (args := #[Value.ref b]) (s := s) (tm := .static "SheGoesOut$Law" "SIGHTS" "[I") (ty := .int) (N := 32) (f := fun j => .int (gSights j)) (A := fun q : Nat => s.heap.size ≤ q) (by decide) (hs _ (by decide +kernel)) (va_eqt (hs _ (by decide +kernel))) (fun j hj => va_eqt (hs _ (m0 j hj))) hA
  obtain ⟨t1, e1, T1⟩ := va_Tof (args := #[Value.ref b]) (s := s) (tm := .static "SheGoesOut$Night" "TURNS" "[I") (ty := .int) (N := 4) (f := fun j => .int (gTurns j)) (A := fun q : Nat => s.heap.size ≤ q) (by decide) (hs _ (by decide +kernel)) (va_eqt (hs _ (by decide +kernel))) (fun j hj => va_eqt (hs _ (m1 j hj))) hA
  have z0 := va_Zof (hts (.laysStatic "SheGoesOut$Law" "SIGHTS" "[I") (by decide +kernel)) (hts (.initialized "SheGoesOut$Law") (by decide +kernel)) e0 hA
  have z1 := va_Zof (hts (.laysStatic "SheGoesOut$Night" "TURNS" "[I") (by decide +kernel)) (hts (.initialized "SheGoesOut$Night") (by decide +kernel)) e1 hA
  have z2 := va_Zof (hts (.laysStatic "java/lang/String" "COMPACT_STRINGS" "Z") (by decide +kernel)) (hts (.initialized "java/lang/String") (by decide +kernel)) (va_eqi (z := 1) (hs _ (by decide +kernel))) hA
  obtain ⟨adK, adV, hS, hE⟩ := vk_Sof (args := #[Value.ref b]) (s := s) (N := 2) (tm := fun i => .string "SheGoesOut$Tape" (if i = 0 then 46 else 59)) (len := [8, 6]) (byt := [[111, 112, 119, 109, 97, 104, 115, 101], [97, 108, 114, 98, 116, 100]]) (A := fun q : Nat => s.heap.size ≤ q) (by decide)
    (fun i hi => hs _ ((show ∀ i : Nat, i < 2 → Cond.exactly (.string "SheGoesOut$Tape" (if i = 0 then 46 else 59)) "java/lang/String" ∈ flatC (Jvm.Cond.and given_1 narrow_1) by decide +kernel) i hi))
    (fun i hi => hs _ ((show ∀ i : Nat, i < 2 → Cond.eq (.field (.string "SheGoesOut$Tape" (if i = 0 then 46 else 59)) "java/lang/String" "coder" "B") (.int 0) ∈ flatC (Jvm.Cond.and given_1 narrow_1) by decide +kernel) i hi))
    (fun i hi => hs _ ((show ∀ i : Nat, i < 2 → Cond.arrayOf (.field (.string "SheGoesOut$Tape" (if i = 0 then 46 else 59)) "java/lang/String" "value" "[B") .byte ∈ flatC (Jvm.Cond.and given_1 narrow_1) by decide +kernel) i hi))
    (fun i hi => hs _ ((show ∀ i : Nat, i < 2 → Cond.eq (.length (.field (.string "SheGoesOut$Tape" (if i = 0 then 46 else 59)) "java/lang/String" "value" "[B")) (.int (Int32.ofNat (([8, 6] : List Nat).getD i 0))) ∈ flatC (Jvm.Cond.and given_1 narrow_1) by decide +kernel) i hi))
    (fun i hi j hj => hs _ ((show ∀ i : Nat, i < 2 → ∀ j : Nat, j < ([8, 6] : List Nat).getD i 0 → Cond.eq (.elem (.field (.string "SheGoesOut$Tape" (if i = 0 then 46 else 59)) "java/lang/String" "value" "[B") (.int (Int32.ofNat j))) (.int ((([[111, 112, 119, 109, 97, 104, 115, 101], [97, 108, 114, 98, 116, 100]] : List (List Int32)).getD i []).getD j 0)) ∈ flatC (Jvm.Cond.and given_1 narrow_1) by decide +kernel) i hi j hj))
    (fun i j hi hj hij => by
      have h := hs (Cond.not (Cond.eq (.string "SheGoesOut$Tape" 46) (.string "SheGoesOut$Tape" 59))) (by decide +kernel)
      rcases (show i = 0 ∧ j = 1 ∨ i = 1 ∧ j = 0 by omega) with ⟨rfl, rfl⟩ | ⟨rfl, rfl⟩
      · exact Or.inl h
      · exact Or.inr h) hA
  have r0 := vk_R.of (hts (.stringRef "SheGoesOut$Tape" 46 "opwmahse") (by decide +kernel)) (hE 0 (by decide))
  have r1 := vk_R.of (hts (.stringRef "SheGoesOut$Tape" 59 "alrbtd") (by decide +kernel)) (hE 1 (by decide))
  have k0 := hS.1 0 (by decide)
  have k1 := hS.1 1 (by decide)
  refine ⟨fun k => [t0, t1, adK 0, adK 1, adV 0, adV 1].getD k 0, ⟨z0, T0⟩, ⟨z1, T1⟩, z2, ⟨r0, k0.1, k0.2.1, k0.2.2.1, k0.2.2.2⟩, ⟨r1, k1.1, k1.2.1, k1.2.2.1, k1.2.2.2⟩, fun x hx => va_Nw.of (A := #[Value.ref b]) rfl (hts _ ?_)⟩
  exact (show ∀ x ∈ gNl, Cond.methodLinkNest x.1 x.2.1 x.2.2.1 x.2.2.2 ∈ lw_tbl by decide +kernel) x hx
theorem gK_start {p : Program} {s : State} {m : MethodId} {args : Array Value} {c : Code} {cc : ByteArray} {nL : Nat} {own : String} (X : gX p s m args c cc nL own) : ∃ (D : va_G) (cy : Nat → ClassId), va_K D vwCl (gtys cy) s := by
  have h0 : ∀ k : Nat, ∃ z : ClassId × (Nat → Nat), ∀ q : vw_C, vwCl[k]? = some q → u_Kn s q.1 q.2.1 q.2.2 z.1 z.2 := by
    intro k
    by_cases hk : 13 ≤ k
    · exact ⟨(0, fun _ => 0), fun q hq => absurd (List.getElem?_eq_some_iff.mp hq).1 (Nat.not_lt.mpr hk)⟩
    rcases (show k = 0 ∨ k = 1 ∨ k = 2 ∨ k = 3 ∨ k = 4 ∨ k = 5 ∨ k = 6 ∨ k = 7 ∨ k = 8 ∨ k = 9 ∨ k = 10 ∨ k = 11 ∨ k = 12 by omega) with rfl | rfl | rfl | rfl | rfl | rfl | rfl | rfl | rfl | rfl | rfl | rfl | rfl
    · obtain ⟨c0, i0, h0⟩ := u_known (C := RX0) (T := TX0) (N := 4) (n := 4) X.2.2.2.2 inW_X0 (X.2.2.2.2 _ wm_226)
      exact ⟨(c0, i0), fun q hq => by cases hq; exact h0⟩
    · obtain ⟨c0, i0, h0⟩ := u_known (C := RX1) (T := TX1) (N := 3) (n := 3) X.2.2.2.2 inW_X1 (X.2.2.2.2 _ wm_246)
      exact ⟨(c0, i0), fun q hq => by cases hq; exact h0⟩
    · obtain ⟨c0, i0, h0⟩ := u_known (C := RX2) (T := TX2) (N := 7) (n := 7) X.2.2.2.2 inW_X2 (X.2.2.2.2 _ wm_195)
      exact ⟨(c0, i0), fun q hq => by cases hq; exact h0⟩
    · obtain ⟨c0, i0, h0⟩ := u_known (C := RX3) (T := TX3) (N := 3) (n := 3) X.2.2.2.2 inW_X3 (X.2.2.2.2 _ wm_84)
      exact ⟨(c0, i0), fun q hq => by cases hq; exact h0⟩
    · obtain ⟨c0, i0, h0⟩ := u_known (C := RX4) (T := TX4) (N := 2) (n := 2) X.2.2.2.2 inW_X4 (X.2.2.2.2 _ wm_108)
      exact ⟨(c0, i0), fun q hq => by cases hq; exact h0⟩
    · obtain ⟨c0, i0, h0⟩ := u_known (C := RX5) (T := TX5) (N := 7) (n := 7) X.2.2.2.2 inW_X5 (X.2.2.2.2 _ wm_296)
      exact ⟨(c0, i0), fun q hq => by cases hq; exact h0⟩
    · obtain ⟨c0, i0, h0⟩ := u_known (C := RX6) (T := TX6) (N := 5) (n := 5) X.2.2.2.2 inW_X6 (X.2.2.2.2 _ wm_125)
      exact ⟨(c0, i0), fun q hq => by cases hq; exact h0⟩
    · obtain ⟨c0, i0, h0⟩ := u_known (C := RX7) (T := TX7) (N := 3) (n := 3) X.2.2.2.2 inW_X7 (X.2.2.2.2 _ wm_340)
      exact ⟨(c0, i0), fun q hq => by cases hq; exact h0⟩
    · obtain ⟨c0, i0, h0⟩ := u_known (C := RX8) (T := TX8) (N := 7) (n := 7) X.2.2.2.2 inW_X8 (X.2.2.2.2 _ wm_78)
      exact ⟨(c0, i0), fun q hq => by cases hq; exact h0⟩
    · obtain ⟨c0, i0, h0⟩ := u_known (C := RX9) (T := TX9) (N := 2) (n := 2) X.2.2.2.2 inW_X9 (X.2.2.2.2 _ wm_326)
      exact ⟨(c0, i0), fun q hq => by cases hq; exact h0⟩
    · obtain ⟨c0, i0, h0⟩ := u_known (C := RX10) (T := TX10) (N := 10) (n := 10) X.2.2.2.2 inW_X10 (X.2.2.2.2 _ wm_154)
      exact ⟨(c0, i0), fun q hq => by cases hq; exact h0⟩
    · obtain ⟨c0, i0, h0⟩ := u_known (C := RX11) (T := TX11) (N := 7) (n := 7) X.2.2.2.2 inW_X11 (X.2.2.2.2 _ wm_70)
      exact ⟨(c0, i0), fun q hq => by cases hq; exact h0⟩
    · obtain ⟨c0, i0, h0⟩ := u_known (C := RX12) (T := TX12) (N := 42) (n := 42) X.2.2.2.2 inW_X12 (X.2.2.2.2 _ wm_1144)
      exact ⟨(c0, i0), fun q hq => by cases hq; exact h0⟩
  obtain ⟨f, hf⟩ := Classical.axiomOfChoice h0
  obtain ⟨cI, kI, pI, i1, i2, i3⟩ := Cond.arrayClass_spec (X.2.2.2.2 _ wm_106)
  obtain ⟨cJ, kJ, pJ, j1, j2, j3⟩ := Cond.arrayClass_spec (X.2.2.2.2 _ wm_152)
  obtain ⟨cC, kC, pC, l1, l2, l3⟩ := Cond.arrayClass_spec (X.2.2.2.2 _ wm_338)
  refine ⟨(fun k => (f k).1, fun k => (f k).2), fun t => if t = 0 then cI else if t = 1 then cJ else cC, fun k q hq => hf k q hq, fun k q hq => ?_⟩
  rcases (show k = 0 ∨ k = 1 ∨ k = 2 ∨ 3 ≤ k by omega) with rfl | rfl | rfl | hk
  · cases hq
    exact ⟨fun n z => ⟨fun k h => (by cases h), kI, i2, pI, i3⟩, i1⟩
  · cases hq
    exact ⟨fun n z => ⟨fun k h => (by cases h), kJ, j2, pJ, j3⟩, j1⟩
  · cases hq
    exact ⟨fun n z => ⟨fun k h => (by cases h), kC, l2, pC, l3⟩, l1⟩
  · exact absurd (List.getElem?_eq_some_iff.mp hq).1 (Nat.not_lt.mpr hk)
set_option maxRecDepth 100000 in
set_option maxHeartbeats 16000000 in
theorem whole_open {F : Nat} {Rel : Nat → St → St → Prop} (HP : PureOK F Rel) (HP2 : ∀ (n : Nat) (c m : St), n < 64 → Rel n c m → Rel (n + 1) c m) {p : Program} {e : Env} {s : State} {m : MethodId} {below : List Frame} {meth : Method} {c : Code} (l : Launch) {b L : Nat} {xs : Nat → Int32} (hL : L ≤ 384) (C0 : lw_At p s m meth c b L xs) : W p l e room_1 s m #[Value.ref b] below meth c s.heap [] 0 0 (lw_Z below #[Value.ref b] s) (entryFrame m ([Value.ref b] : List Value).toArray 4) := by
  obtain ⟨hx, hb, hr, hml, hown, hts, hX, hbl, hlocks, hgv⟩ := id C0
  have X : gX p s m #[Value.ref b] c code 4 "SheGoesOutLaw" := ⟨hx, hb, hml, hown, fun w hw => hts w (gw_sub hw)⟩
  obtain ⟨sa, hSF⟩ := gSF_start hts hgv
  obtain ⟨D, cy, hK⟩ := gK_start X
  have hNw := hSF.2.2.2.2.2
  have hA : ∀ q : Nat, s.heap.size ≤ q → (fun q : Nat => s.heap.size ≤ q) q := fun _ h => h
  have hS : va_S (fun q : Nat => s.heap.size ≤ q) s.heap s.heap [] := va_S.rf
  have hP : va_P D vwCl [] s.heap := fun k q h => by simp at h
  have hD : va_D (fun q : Nat => s.heap.size ≤ q) [] := ⟨fun i j p q h => by simp at h, fun k q h => by simp at h⟩
  have hl := lv_entry ([.ref b]) (n := 4) (Nat.le_of_ble_eq_true rfl)
  rw [lg_entry_eq]
  generalize (lg_sl ([.ref b]) ++ List.replicate (4 - (lg_sl ([.ref b])).length) Slot.unset).toArray = ls at hl ⊢
  have hl : lv_has ls 4 [(0, .ref b)] := hl
  refine va_new (ci := 11) (fs := [.null, .null, .null, .null, .null, .null, .int 0]) (C := RX11) (T := TX11) (N := 7) X.1 X.2.1 X.2.2.2.2 inW_X11 tyX11 tyX11_ok X.2.2.2.1 (X.2.2.2.2 _ wm_69) (X.2.2.2.2 _ wm_70) (X.2.2.2.2 _ wm_47) hK hP hD hS hA rfl (by decide +kernel) (Nat.le_of_ble_eq_true rfl) (Nat.le_of_ble_eq_true rfl) (dck_at da_L_law 0 rfl) (fun q0 H hP hD hS => ?_)
  refine W.widen (k := 1) (n := 7) (by omega) (by omega) ?_
  have hP : va_P D vwCl [(q0, .inr (11, [.null, .null, .null, .null, .null, .null, .int 0]))] H := hP
  have hD : va_D (fun q : Nat => s.heap.size ≤ q) [(q0, .inr (11, [.null, .null, .null, .null, .null, .null, .int 0]))] := hD
  refine lv_dup X.1 X.2.1 (dck_at da_L_law 1 rfl) rfl ?_
  have hPc := hP.sub (ws' := [(q0, .inr (11, [.null, .null, .null, .null, .null, .null, .int 0]))]) [0] rfl
  have hDc := hD.sub (ws' := [(q0, .inr (11, [.null, .null, .null, .null, .null, .null, .int 0]))]) [0] (by decide) rfl
  have hFc := va_free (wc := [(q0, .inr (11, [.null, .null, .null, .null, .null, .null, .int 0]))]) hD hS hA [0] rfl
  refine va_callv (va_runI (nL := 4) (As := []) (rest := [.ref q0]) ⟨X.1, X.2.1, X.2.2.1, X.2.2.2.1, X.2.2.2.2⟩ (ct_X11 l D cy q0 H.size) (cwI 0 X.2.2.2.2 (gw_cons wm_73) rfl rfl rfl (X.2.2.2.2 _ wm_47) (X.2.2.2.2 _ wm_71) (X.2.2.2.2 _ wm_72) rfl ⟨by decide, by decide, by decide +kernel⟩ ⟨Nat.le_of_ble_eq_true rfl, Nat.le_of_ble_eq_true rfl⟩) ⟨gK.blind, fun U hU hW => ⟨rfl, by rw [hU], by rw [hU]; exact hPc, va_K.moved hW.alike hK, hDc.weaken (fun _ _ _ _ => trivial), fun x hx => va_Nw.warmM hW (hNw x hx)⟩⟩ rfl rfl hl.1 rfl (lv_room (Nat.le_of_ble_eq_true rfl)) (dck_at da_L_law 2 rfl) ⟨Nat.le_of_ble_eq_true rfl, Nat.le_of_ble_eq_true rfl⟩) hS (fun q _ h => hFc q h) hFc (fun u t H1 locs ht hvm hw hB hz1 hk1 hS => ?_)
  obtain ⟨hP1, hD1⟩ := hB
  rw [ht] at hP1
  obtain ⟨hPn, hDn⟩ := va_join (wr := []) (w1 := gWl shX11 cy u σX11) hP hD [0] [] rfl rfl (by decide) (by decide) hk1 hFc hP1 hD1
  clear hP hD hPc hDc hFc hP1 hD1 hk1
  subst hw
  generalize H1 = H at hPn hS ⊢
  have hP : va_P D vwCl (gWl shX11 cy u σX11) H := hPn
  have hD : va_D (fun q : Nat => s.heap.size ≤ q) (gWl shX11 cy u σX11) := hDn
  clear hPn hDn
  refine W.widen (k := 81) (n := 4588) (by omega) (by omega) ?_
  refine lv_astore_n (lv' := [(1, .ref (u 0)), (0, .ref b)]) X.1 X.2.1 (dck_at da_L_law 3 rfl) rfl hl (by decide) rfl (fun ls hl => ?_)
  refine va_new (ci := 12) (fs := [.null, .null, .null, .null, .null, .null, .null, .int 0, .int 0, .int 0, .null, .null, .null, .int 0, .int 0, .null, .null, .null, .int 0, .null, .null, .int 0, .null, .null, .null, .null, .null, .int 0, .null, .null, .null, .int 0, .null, .null, .null, .null, .null, .int 0, .null, .null, .null, .null]) (C := RX12) (T := TX12) (N := 42) X.1 X.2.1 X.2.2.2.2 inW_X12 tyX12 tyX12_ok X.2.2.2.1 (X.2.2.2.2 _ wm_1143) (X.2.2.2.2 _ wm_1144) (X.2.2.2.2 _ wm_59) hK hP hD hS hA rfl (by decide +kernel) (Nat.le_of_ble_eq_true rfl) (Nat.le_of_ble_eq_true rfl) (dck_at da_L_law 4 rfl) (fun q1 H hP hD hS => ?_)
  refine W.widen (k := 82) (n := 4630) (by omega) (by omega) ?_
  refine lv_dup X.1 X.2.1 (dck_at da_L_law 5 rfl) rfl ?_
  have hPc := hP.sub (ws' := [(q1, .inr (12, [.null, .null, .null, .null, .null, .null, .null, .int 0, .int 0, .int 0, .null, .null, .null, .int 0, .int 0, .null, .null, .null, .int 0, .null, .null, .int 0, .null, .null, .null, .null, .null, .int 0, .null, .null, .null, .int 0, .null, .null, .null, .null, .null, .int 0, .null, .null, .null, .null]))]) [81] rfl
  have hDc := hD.sub (ws' := [(q1, .inr (12, [.null, .null, .null, .null, .null, .null, .null, .int 0, .int 0, .int 0, .null, .null, .null, .int 0, .int 0, .null, .null, .null, .int 0, .null, .null, .int 0, .null, .null, .null, .null, .null, .int 0, .null, .null, .null, .int 0, .null, .null, .null, .null, .null, .int 0, .null, .null, .null, .null]))]) [81] (by decide) rfl
  have hFc := va_free (wc := [(q1, .inr (12, [.null, .null, .null, .null, .null, .null, .null, .int 0, .int 0, .int 0, .null, .null, .null, .int 0, .int 0, .null, .null, .null, .int 0, .null, .null, .int 0, .null, .null, .null, .null, .null, .int 0, .null, .null, .null, .int 0, .null, .null, .null, .null, .null, .int 0, .null, .null, .null, .null]))]) hD hS hA [81] rfl
  refine va_callv (va_runI (nL := 4) (As := []) (rest := [.ref q1]) ⟨X.1, X.2.1, X.2.2.1, X.2.2.2.1, X.2.2.2.2⟩ (ct_X12 l D cy q1 H.size) (cwI 0 X.2.2.2.2 (gw_cons wm_1147) rfl rfl rfl (X.2.2.2.2 _ wm_59) (X.2.2.2.2 _ wm_1145) (X.2.2.2.2 _ wm_1146) rfl ⟨by decide, by decide, by decide +kernel⟩ ⟨Nat.le_of_ble_eq_true rfl, Nat.le_of_ble_eq_true rfl⟩) ⟨gK.blind, fun U hU hW => ⟨rfl, by rw [hU], by rw [hU]; exact hPc, va_K.moved hW.alike hK, hDc.weaken (fun _ _ _ _ => trivial), fun x hx => va_Nw.warmM hW (hNw x hx)⟩⟩ rfl rfl hl.1 rfl (lv_room (Nat.le_of_ble_eq_true rfl)) (dck_at da_L_law 6 rfl) ⟨Nat.le_of_ble_eq_true rfl, Nat.le_of_ble_eq_true rfl⟩) hS (fun q _ h => hFc q h) hFc (fun v t H1 locs ht hvm hw hB hz1 hk1 hS => ?_)
  obtain ⟨hP1, hD1⟩ := hB
  rw [ht] at hP1
  obtain ⟨hPn, hDn⟩ := va_join (wr := gWl shX11 cy u σX11) (w1 := gWl shX12 cy v σX12) hP hD [81] [0, 1, 2, 3, 4, 5, 6, 7, 8, 9, 10, 11, 12, 13, 14, 15, 16, 17, 18, 19, 20, 21, 22, 23, 24, 25, 26, 27, 28, 29, 30, 31, 32, 33, 34, 35, 36, 37, 38, 39, 40, 41, 42, 43, 44, 45, 46, 47, 48, 49, 50, 51, 52, 53, 54, 55, 56, 57, 58, 59, 60, 61, 62, 63, 64, 65, 66, 67, 68, 69, 70, 71, 72, 73, 74, 75, 76, 77, 78, 79, 80] rfl rfl (by decide) (by decide) hk1 hFc hP1 hD1
  clear hP hD hPc hDc hFc hP1 hD1 hk1
  subst hw
  generalize H1 = H at hPn hS ⊢
  have hP := hPn
  have hD := hDn
  clear hPn hDn
  have PC : va_P D vwCl (gWl shX11 cy u σX11) H := hP.sub [0, 1, 2, 3, 4, 5, 6, 7, 8, 9, 10, 11, 12, 13, 14, 15, 16, 17, 18, 19, 20, 21, 22, 23, 24, 25, 26, 27, 28, 29, 30, 31, 32, 33, 34, 35, 36, 37, 38, 39, 40, 41, 42, 43, 44, 45, 46, 47, 48, 49, 50, 51, 52, 53, 54, 55, 56, 57, 58, 59, 60, 61, 62, 63, 64, 65, 66, 67, 68, 69, 70, 71, 72, 73, 74, 75, 76, 77, 78, 79, 80] rfl
  have PM : va_P D vwCl (gWl shX12 cy v σX12) H := hP.sub [81, 82, 83, 84, 85, 86, 87, 88, 89, 90, 91, 92, 93, 94, 95, 96, 97, 98, 99, 100, 101, 102, 103, 104, 105, 106, 107, 108, 109, 110, 111, 112, 113] rfl
  have DC : va_D (fun q : Nat => s.heap.size ≤ q) (gWl shX11 cy u σX11) := hD.sub [0, 1, 2, 3, 4, 5, 6, 7, 8, 9, 10, 11, 12, 13, 14, 15, 16, 17, 18, 19, 20, 21, 22, 23, 24, 25, 26, 27, 28, 29, 30, 31, 32, 33, 34, 35, 36, 37, 38, 39, 40, 41, 42, 43, 44, 45, 46, 47, 48, 49, 50, 51, 52, 53, 54, 55, 56, 57, 58, 59, 60, 61, 62, 63, 64, 65, 66, 67, 68, 69, 70, 71, 72, 73, 74, 75, 76, 77, 78, 79, 80] (by decide) rfl
  have DM : va_D (fun q : Nat => s.heap.size ≤ q) (gWl shX12 cy v σX12) := hD.sub [81, 82, 83, 84, 85, 86, 87, 88, 89, 90, 91, 92, 93, 94, 95, 96, 97, 98, 99, 100, 101, 102, 103, 104, 105, 106, 107, 108, 109, 110, 111, 112, 113] (by decide) rfl
  refine W.widen (k := 600000) (n := 7302250) (Nat.le_of_ble_eq_true rfl) (Nat.le_of_ble_eq_true rfl) ?_
  refine lv_astore_n (lv' := [(2, .ref (v 0)), (1, .ref (u 0)), (0, .ref b)]) X.1 X.2.1 (dck_at da_L_law 7 rfl) rfl hl (by decide) rfl (fun ls hl => ?_)
  refine lv_iconst X.1 X.2.1 (dck_at da_L_law 8 rfl) ki_0 ?_
  refine lv_istore_n (lv' := [(3, .int 0), (2, .ref (v 0)), (1, .ref (u 0)), (0, .ref b)]) X.1 X.2.1 (dck_at da_L_law 9 rfl) rfl hl (by decide) rfl (fun ls hl => ?_)
  have aC := gWl_A DC (N := 81) rfl
  have aM := gWl_A DM (N := 33) rfl
  have FC : gF shC D cy u sa (lwA 81 u) s := ⟨hK, gWl_D (N := 81) DC rfl, hSF.narrow aC⟩
  have FM : gF shM D cy v sa (lwA 33 v) s := ⟨hK, gWl_D (N := 33) DM rfl, hSF.narrow aM⟩
  refine va_forget (fun q h => hS.2.2 q h) ?_
  exact law_loop HP HP2 (l := l) hL hr hlocks X hX hbl FC FM (fun i hi h => by
      obtain ⟨j, hj, e⟩ := h
      exact gWl_ap hD (show j < shX11.length from hj) (show i < shX12.length from hi) e.symm) (fun i hi h => by
      obtain ⟨j, hj, e⟩ := h
      exact gWl_ap hD (show i < shX11.length from hi) (show j < shX12.length from hj) e) aC aM 64 0 0 σX11 σX12 H ls rfl (Nat.zero_le _) rfl HP.1 PC PM hS.1 (fun q h => hS.2.1 q h (Nat.not_le.mpr h)) (lv_sub hl [3, 2, 1, 0] rfl)
