/-! my kit: one world of fixed cells, all methods of a side over it -/
/-- the tables' words that every method may take -/
def gw : List Cond := lw_tbl.filter goodWord
theorem gw_mem {w : Cond} (h : w ∈ lw_tbl) (hg : goodWord w = true) : w ∈ gw := List.mem_filter.mpr ⟨h, hg⟩
theorem gw_sub {w : Cond} (h : w ∈ gw) : w ∈ lw_tbl := (List.mem_filter.mp h).1
theorem gw_at {w : Cond} (i : Nat) (h : lw_tbl[i]? = some w) (hg : goodWord w = true) : w ∈ gw := gw_mem (List.mem_of_getElem? h) hg
theorem gw_goodIn {ws : List Cond} (h : ∀ w ∈ ws, w ∈ gw) : GoodIn gw ws := fun w hw => ⟨h w hw, good_of_word (List.mem_filter.mp (h w hw)).2⟩
/-- the room of a method that stands d calls deep at most -/
def grm (d : Nat) : Room := { frames := d, cells := 0, slots := 0, locals := 40 * d }
/-- the state: whole numbers and longs, by cell and place -/
abbrev St : Type := (Nat → Nat → Int32) × (Nat → Nat → Int64)
def sI (σ : St) (c k : Nat) (v : Int32) : St := (fun q => if q = c then upd (σ.1 c) k v else σ.1 q, σ.2)
def sJ (σ : St) (c k : Nat) (v : Int64) : St := (σ.1, fun q => if q = c then vp_updL (σ.2 c) k v else σ.2 q)
def rI (σ : St) (c : Nat) (f : Nat → Int32) : St := (fun q => if q = c then f else σ.1 q, σ.2)
def rJ (σ : St) (c : Nat) (f : Nat → Int64) : St := (σ.1, fun q => if q = c then f else σ.2 q)
def inb (i : Int32) (n : Nat) : Bool := decide (¬ (i < 0 ∨ n ≤ i.toNatClampNeg))
theorem inb_in {i : Int32} {n : Nat} (h : inb i n = true) : vp_in i n := of_decide_eq_true (p := ¬ (i < 0 ∨ n ≤ i.toNatClampNeg)) h
/-- shapes: an object (its class's place, its fields: 0 a whole number, 1 a long, c + 2 the cell c), or an array (0 of ints, 1 of longs, 2 of chars; how long) -/
abbrev gSh : Type := (Nat × List Nat) ⊕ (Nat × Nat)
def gV (ad : Nat → Nat) (I : Nat → Int32) (J : Nat → Int64) : List Nat → Nat → List Value
  | [], _ => []
  | 0 :: r, k => .int (I k) :: gV ad I J r (k + 1)
  | 1 :: r, k => .long (J k) :: gV ad I J r (k + 1)
  | (c + 2) :: r, k => .ref (ad c) :: gV ad I J r (k + 1)
def gE (cy : Nat → ClassId) (ad : Nat → Nat) (I : Nat → Int32) (J : Nat → Int64) : gSh → va_E
  | .inl (ci, l) => .inr (ci, gV ad I J l 0)
  | .inr (1, n) => .inl (cy 1, n, .inr (.inl J))
  | .inr (t, n) => .inl (cy t, n, .inl I)
def gWl (Sh : List gSh) (cy : Nat → ClassId) (ad : Nat → Nat) (σ : St) : va_W := (List.range Sh.length).map fun c => (ad c, gE cy ad (σ.1 c) (σ.2 c) (Sh.getD c (.inr (0, 0))))
theorem gWl_get {Sh : List gSh} {cy : Nat → ClassId} {ad : Nat → Nat} {σ : St} {c : Nat} {sh : gSh} (h : Sh[c]? = some sh) : (gWl Sh cy ad σ)[c]? = some (ad c, gE cy ad (σ.1 c) (σ.2 c) sh) := by
  have hl : c < Sh.length := (List.getElem?_eq_some_iff.mp h).1
  have e : Sh.getD c (.inr (0, 0)) = sh := by rw [List.getD_eq_getElem?_getD, h]; rfl
  unfold gWl
  rw [List.getElem?_map, List.getElem?_range hl]
  show some (ad c, gE cy ad (σ.1 c) (σ.2 c) (Sh.getD c (.inr (0, 0)))) = _
  rw [e]
theorem gWl_len (Sh : List gSh) (cy : Nat → ClassId) (ad : Nat → Nat) (σ : St) : (gWl Sh cy ad σ).length = Sh.length := by unfold gWl; simp
theorem gWl_setOf {Sh : List gSh} {cy : Nat → ClassId} {ad : Nat → Nat} {σ σ' : St} {c : Nat} {sh : gSh} (h : Sh[c]? = some sh) (h1 : ∀ q, q ≠ c → σ'.1 q = σ.1 q ∧ σ'.2 q = σ.2 q) : (gWl Sh cy ad σ).set c (ad c, gE cy ad (σ'.1 c) (σ'.2 c) sh) = gWl Sh cy ad σ' := by
  apply List.ext_getElem?
  intro q
  by_cases hq : q = c
  · subst hq
    rw [List.getElem?_set_self (by rw [gWl_len]; exact (List.getElem?_eq_some_iff.mp h).1), gWl_get h]
  · rw [List.getElem?_set_ne (Ne.symm hq)]
    unfold gWl
    rw [List.getElem?_map, List.getElem?_map]
    cases hr : (List.range Sh.length)[q]? with
    | none => rfl
    | some z =>
      have hz : z = q := by
        have h2 := (List.getElem?_eq_some_iff.mp hr).2
        simpa using h2.symm
      subst hz
      simp only [Option.map_some, (h1 z hq).1, (h1 z hq).2]
theorem sI_ne {σ : St} {c k : Nat} {v : Int32} : ∀ q, q ≠ c → (sI σ c k v).1 q = σ.1 q ∧ (sI σ c k v).2 q = σ.2 q := fun q h => ⟨if_neg h, rfl⟩
theorem sJ_ne {σ : St} {c k : Nat} {v : Int64} : ∀ q, q ≠ c → (sJ σ c k v).1 q = σ.1 q ∧ (sJ σ c k v).2 q = σ.2 q := fun q h => ⟨rfl, if_neg h⟩
theorem rI_ne {σ : St} {c : Nat} {v : Nat → Int32} : ∀ q, q ≠ c → (rI σ c v).1 q = σ.1 q ∧ (rI σ c v).2 q = σ.2 q := fun q h => ⟨if_neg h, rfl⟩
theorem rJ_ne {σ : St} {c : Nat} {v : Nat → Int64} : ∀ q, q ≠ c → (rJ σ c v).1 q = σ.1 q ∧ (rJ σ c v).2 q = σ.2 q := fun q h => ⟨rfl, if_neg h⟩
theorem sI_eq (σ : St) (c k : Nat) (v : Int32) : (sI σ c k v).1 c = upd (σ.1 c) k v ∧ (sI σ c k v).2 c = σ.2 c := ⟨if_pos rfl, rfl⟩
theorem sJ_eq (σ : St) (c k : Nat) (v : Int64) : (sJ σ c k v).1 c = σ.1 c ∧ (sJ σ c k v).2 c = vp_updL (σ.2 c) k v := ⟨rfl, if_pos rfl⟩
theorem rI_eq (σ : St) (c : Nat) (v : Nat → Int32) : (rI σ c v).1 c = v ∧ (rI σ c v).2 c = σ.2 c := ⟨if_pos rfl, rfl⟩
theorem rJ_eq (σ : St) (c : Nat) (v : Nat → Int64) : (rJ σ c v).1 c = σ.1 c ∧ (rJ σ c v).2 c = v := ⟨rfl, if_pos rfl⟩
theorem gV_len (ad : Nat → Nat) (I : Nat → Int32) (J : Nat → Int64) : ∀ (l : List Nat) (k : Nat), (gV ad I J l k).length = l.length
  | [], _ => rfl
  | 0 :: r, k => congrArg (· + 1) (gV_len ad I J r (k + 1))
  | 1 :: r, k => congrArg (· + 1) (gV_len ad I J r (k + 1))
  | (c + 2) :: r, k => congrArg (· + 1) (gV_len ad I J r (k + 1))
def gv (ad : Nat → Nat) (I : Nat → Int32) (J : Nat → Int64) (k : Nat) : Nat → Value
  | 0 => .int (I k)
  | 1 => .long (J k)
  | (c + 2) => .ref (ad c)
theorem gV_cons (ad : Nat → Nat) (I : Nat → Int32) (J : Nat → Int64) (t : Nat) (r : List Nat) (k : Nat) : gV ad I J (t :: r) k = gv ad I J k t :: gV ad I J r (k + 1) := by
  match t with
  | 0 => rfl
  | 1 => rfl
  | (c + 2) => rfl
theorem gV_at (ad : Nat → Nat) (I : Nat → Int32) (J : Nat → Int64) : ∀ (l : List Nat) (b k t : Nat), l[k]? = some t → (gV ad I J l b)[k]? = some (gv ad I J (b + k) t)
  | [], _, k, t, h => by simp at h
  | x :: r, b, 0, t, h => by
    simp only [List.getElem?_cons_zero, Option.some.injEq] at h
    subst h
    rw [gV_cons]
    rfl
  | x :: r, b, k + 1, t, h => by
    rw [List.getElem?_cons_succ] at h
    rw [gV_cons, List.getElem?_cons_succ, gV_at ad I J r (b + 1) k t h]
    congr 2
    omega
theorem gV_get {ad : Nat → Nat} {I : Nat → Int32} {J : Nat → Int64} {l : List Nat} {k t : Nat} (h : l[k]? = some t) : (gV ad I J l 0)[k]? = some (gv ad I J k t) := by
  rw [gV_at ad I J l 0 k t h, Nat.zero_add]
theorem gV_ext {ad : Nat → Nat} {I I' : Nat → Int32} {J J' : Nat → Int64} : ∀ (l : List Nat) (b : Nat), (∀ k, b ≤ k → I k = I' k ∧ J k = J' k) → gV ad I J l b = gV ad I' J' l b
  | [], _, _ => rfl
  | x :: r, b, h => by
    rw [gV_cons, gV_cons, gV_ext r (b + 1) (fun k hk => h k (by omega))]
    congr 1
    match x with
    | 0 => show Value.int _ = Value.int _; rw [(h b (Nat.le_refl _)).1]
    | 1 => show Value.long _ = Value.long _; rw [(h b (Nat.le_refl _)).2]
    | (c + 2) => rfl
theorem gV_setI (ad : Nat → Nat) (I : Nat → Int32) (J : Nat → Int64) (v : Int32) : ∀ (l : List Nat) (b k : Nat), l[k]? = some 0 → (gV ad I J l b).set k (.int v) = gV ad (upd I (b + k) v) J l b
  | [], _, k, h => by simp at h
  | x :: r, b, 0, h => by
    simp only [List.getElem?_cons_zero, Option.some.injEq] at h
    subst h
    rw [gV_cons, gV_cons, List.set_cons_zero]
    congr 1
    · show Value.int v = Value.int (upd I (b + 0) v b)
      simp [upd]
    · exact gV_ext r (b + 1) (fun k hk => ⟨by simp only [upd]; rw [if_neg (by omega)], rfl⟩)
  | x :: r, b, k + 1, h => by
    rw [List.getElem?_cons_succ] at h
    rw [gV_cons, gV_cons, List.set_cons_succ, gV_setI ad I J v r (b + 1) k h, show b + 1 + k = b + (k + 1) by omega]
    congr 1
    match x with
    | 0 => show Value.int _ = Value.int _; simp only [upd]; rw [if_neg (by omega)]
    | 1 => rfl
    | (c + 2) => rfl
theorem gV_setJ (ad : Nat → Nat) (I : Nat → Int32) (J : Nat → Int64) (v : Int64) : ∀ (l : List Nat) (b k : Nat), l[k]? = some 1 → (gV ad I J l b).set k (.long v) = gV ad I (vp_updL J (b + k) v) l b
  | [], _, k, h => by simp at h
  | x :: r, b, 0, h => by
    simp only [List.getElem?_cons_zero, Option.some.injEq] at h
    subst h
    rw [gV_cons, gV_cons, List.set_cons_zero]
    congr 1
    · show Value.long v = Value.long (vp_updL J (b + 0) v b)
      simp [vp_updL]
    · exact gV_ext r (b + 1) (fun k hk => ⟨rfl, by simp only [vp_updL]; rw [if_neg (by omega)]⟩)
  | x :: r, b, k + 1, h => by
    rw [List.getElem?_cons_succ] at h
    rw [gV_cons, gV_cons, List.set_cons_succ, gV_setJ ad I J v r (b + 1) k h, show b + 1 + k = b + (k + 1) by omega]
    congr 1
    match x with
    | 0 => rfl
    | 1 => show Value.long _ = Value.long _; simp only [vp_updL]; rw [if_neg (by omega)]
    | (c + 2) => rfl
/-! what stays as it was at the start: two tables, two texts, one switch of String's, links of nest mates -/
def gSights (j : Nat) : Int32 := ([12, 14, 6, 0, 8, 4, 14, 10, 12, 12, 12, 0, 0, 12, 12, 12, 14, 14, 4, 0, 10, 8, 10, 0, 2, 8, 2, 0, 0, 2, 12, 10] : List Int32).getD j 0
def gTurns (j : Nat) : Int32 := ([0, 3, 1, 2] : List Int32).getD j 0
def gKL (j : Nat) : Int32 := ([111, 112, 119, 109, 97, 104, 115, 101] : List Int32).getD j 0
def gSL (j : Nat) : Int32 := ([97, 108, 114, 98, 116, 100] : List Int32).getD j 0
def gNl : List (String × Nat × MethodName × String) := [("SheGoesOut", 11, ⟨"SheGoesOut$State", "<init>", "()V"⟩, "SheGoesOut"), ("SheGoesOut$State", 11, ⟨"SheGoesOut$Land", "<init>", "()V"⟩, "SheGoesOut"), ("SheGoesOut$State", 20, ⟨"SheGoesOut$Law", "<init>", "()V"⟩, "SheGoesOut"), ("SheGoesOut$State", 27, ⟨"SheGoesOut$Night", "<init>", "()V"⟩, "SheGoesOut"), ("SheGoesOut$State", 34, ⟨"SheGoesOut$Teams", "<init>", "()V"⟩, "SheGoesOut"), ("SheGoesOut$State", 41, ⟨"SheGoesOut$Jobs", "<init>", "()V"⟩, "SheGoesOut"), ("SheGoesOut$State", 48, ⟨"SheGoesOut$Book", "<init>", "()V"⟩, "SheGoesOut"), ("SheGoesOut$State", 55, ⟨"SheGoesOut$Door", "<init>", "()V"⟩, "SheGoesOut"), ("SheGoesOut", 21, ⟨"SheGoesOut$Net", "<init>", "()V"⟩, "SheGoesOut"), ("SheGoesOut", 28, ⟨"SheGoesOut$Tape", "<init>", "()V"⟩, "SheGoesOut"), ("SheGoesOut", 35, ⟨"SheGoesOut$Sheets", "<init>", "()V"⟩, "SheGoesOut"), ("SheGoesOut$Tape", 23, ⟨"SheGoesOut", "isIn", "(III)Z"⟩, "SheGoesOut"), ("SheGoesOut$Land", 41, ⟨"SheGoesOut", "isIn", "(III)Z"⟩, "SheGoesOut"), ("SheGoesOut$Sheets", 22, ⟨"SheGoesOut", "isIn", "(III)Z"⟩, "SheGoesOut")]
def gSF (sa : Nat → Nat) (A : Nat → Prop) (U : State) (H : Heap) : Prop :=
  (va_Z "SheGoesOut$Law" "SIGHTS" "[I" (.ref (sa 0)) A U H ∧ va_T .int (sa 0) 32 (fun j => .int (gSights j)) A U H) ∧
  (va_Z "SheGoesOut$Night" "TURNS" "[I" (.ref (sa 1)) A U H ∧ va_T .int (sa 1) 4 (fun j => .int (gTurns j)) A U H) ∧
  va_Z "java/lang/String" "COMPACT_STRINGS" "Z" (.int 1) A U H ∧
  (vk_R "SheGoesOut$Tape" 46 "opwmahse" (sa 2) U ∧ va_O "java/lang/String" (sa 2) A U H ∧ va_OF "java/lang/String" "coder" "B" (.int 0) (sa 2) A U H ∧ va_OF "java/lang/String" "value" "[B" (.ref (sa 4)) (sa 2) A U H ∧ va_T .byte (sa 4) 8 (fun j => .int (gKL j)) A U H) ∧
  (vk_R "SheGoesOut$Tape" 59 "alrbtd" (sa 3) U ∧ va_O "java/lang/String" (sa 3) A U H ∧ va_OF "java/lang/String" "coder" "B" (.int 0) (sa 3) A U H ∧ va_OF "java/lang/String" "value" "[B" (.ref (sa 5)) (sa 3) A U H ∧ va_T .byte (sa 5) 6 (fun j => .int (gSL j)) A U H) ∧
  ∀ x ∈ gNl, va_Nw (.methodLinkNest x.1 x.2.1 x.2.2.1 x.2.2.2) U
theorem gSF.go {sa : Nat → Nat} {A : Nat → Prop} {s U : State} {H : Heap} {locs : List Loc} (h : gSF sa A s s.heap) (hS : va_S A s.heap H locs) (hU : U.heap = H) (hW : s.WarmedH U.vm) : gSF sa A U U.heap := by
  obtain ⟨⟨a1, a2⟩, ⟨b1, b2⟩, c1, ⟨d1, d2, d3, d4, d5⟩, ⟨e1, e2, e3, e4, e5⟩, f1⟩ := h
  have hk := hS.2.1
  have hv := hW.alike
  rw [hU]
  exact ⟨⟨(a1.kept hk).moved hv, (a2.kept hk).moved hv⟩, ⟨(b1.kept hk).moved hv, (b2.kept hk).moved hv⟩, (c1.kept hk).moved hv, ⟨d1.warm hW, (d2.kept hk).moved hv, (d3.kept hk).moved hv, (d4.kept hk).moved hv, (d5.kept hk).moved hv⟩, ⟨e1.warm hW, (e2.kept hk).moved hv, (e3.kept hk).moved hv, (e4.kept hk).moved hv, (e5.kept hk).moved hv⟩, fun x hx => va_Nw.warmM hW (f1 x hx)⟩
theorem gSF.same {sa : Nat → Nat} {A : Nat → Prop} {u U : State} {H : Heap} (h : gSF sa A u H) (hv : U.vm = u.vm) : gSF sa A U H := by
  obtain ⟨⟨a1, a2⟩, ⟨b1, b2⟩, c1, ⟨d1, d2, d3, d4, d5⟩, ⟨e1, e2, e3, e4, e5⟩, f1⟩ := h
  have ha : u.vm.Alike U.vm := by rw [hv]; exact Vm.Alike.refl _
  exact ⟨⟨a1.moved ha, a2.moved ha⟩, ⟨b1.moved ha, b2.moved ha⟩, c1.moved ha, ⟨d1.same hv, d2.moved ha, d3.moved ha, d4.moved ha, d5.moved ha⟩, ⟨e1.same hv, e2.moved ha, e3.moved ha, e4.moved ha, e5.moved ha⟩, fun x hx => va_Nw.same rfl hv.symm (f1 x hx)⟩
abbrev gtys (cy : Nat → ClassId) : List (ClassId × FieldType) := [(cy 0, .int), (cy 1, .long), (cy 2, .char)]
/-- a method's start: the world, the classes, the cells apart, what stays -/
def gP (Sh : List gSh) (D : va_G) (cy : Nat → ClassId) (ad sa : Nat → Nat) (A : Nat → Prop) (σ : St) (U : State) : Prop :=
  va_P D vwCl (gWl Sh cy ad σ) U.heap ∧ va_K D vwCl (gtys cy) U ∧ (∀ τ : St, va_D A (gWl Sh cy ad τ)) ∧ gSF sa A U U.heap
theorem gP.calling {Sh : List gSh} {D : va_G} {cy : Nat → ClassId} {ad sa : Nat → Nat} {A : Nat → Prop} {σ : St} {U : State} (h : gP Sh D cy ad sa A σ U) (g : JFrame) (mk : MethodId) (a : Array Value) : gP Sh D cy ad sa A σ (U.calling g mk a) :=
  ⟨h.1, va_K.moved (u := U) (U := U.calling g mk a) (Vm.Alike.refl U.vm) h.2.1, h.2.2.1, gSF.same (u := U) (U := U.calling g mk a) h.2.2.2 rfl⟩
/-- contracts: a whole number, a long, nothing -/
def gMi (l : Launch) (Sh : List gSh) (D : va_G) (cy : Nat → ClassId) (ad sa : Nat → Nat) (A : Nat → Prop) (y : MethodName) (b : ByteArray) (n : Nat) (rt : Option FieldType) (d : Nat) (as : List Value) (σ : St) (r : Int32) (σ' : St) : Prop :=
  Met l y (Cond.code y b n rt :: gw) (grm d) (va_Pc as (gP Sh D cy ad sa A σ)) (va_Qi (fun (q : Int32) (_ : Unit) => q = r) (fun _ t => va_P D vwCl (gWl Sh cy ad σ') t.heap) A) 0 0 A
def gMl (l : Launch) (Sh : List gSh) (D : va_G) (cy : Nat → ClassId) (ad sa : Nat → Nat) (A : Nat → Prop) (y : MethodName) (b : ByteArray) (n : Nat) (rt : Option FieldType) (d : Nat) (as : List Value) (σ : St) (r : Int64) (σ' : St) : Prop :=
  Met l y (Cond.code y b n rt :: gw) (grm d) (va_Pc as (gP Sh D cy ad sa A σ)) (va_Ql (fun (q : Int64) (_ : Unit) => q = r) (fun _ t => va_P D vwCl (gWl Sh cy ad σ') t.heap) A) 0 0 A
def gMv (l : Launch) (Sh : List gSh) (D : va_G) (cy : Nat → ClassId) (ad sa : Nat → Nat) (A : Nat → Prop) (y : MethodName) (b : ByteArray) (n : Nat) (rt : Option FieldType) (d : Nat) (as : List Value) (σ : St) (σ' : St) : Prop :=
  Met l y (Cond.code y b n rt :: gw) (grm d) (va_Pc as (gP Sh D cy ad sa A σ)) (va_Qv (fun (_ : Unit) => True) (fun _ t => va_P D vwCl (gWl Sh cy ad σ') t.heap) A) 0 0 A
/-- in a method: the machine, what holds of its start, the world now -/
def gX (p : Program) (s : State) (m : MethodId) (args : Array Value) (c : Code) (cc : ByteArray) (nL : Nat) (own : String) : Prop :=
  p.tables.exec = Jvm.exec ∧ c.code = cc ∧ c.maxLocals = nL ∧ s.vm.findClass own = some m.cls ∧ ∀ w ∈ gw, w.before args s = true
def gF (Sh : List gSh) (D : va_G) (cy : Nat → ClassId) (ad sa : Nat → Nat) (A : Nat → Prop) (s : State) : Prop :=
  va_K D vwCl (gtys cy) s ∧ (∀ τ : St, va_D A (gWl Sh cy ad τ)) ∧ gSF sa A s s.heap
def gY (Sh : List gSh) (D : va_G) (cy : Nat → ClassId) (ad : Nat → Nat) (A : Nat → Prop) (σ : St) (s : State) (H : Heap) (locs : List Loc) : Prop :=
  va_P D vwCl (gWl Sh cy ad σ) H ∧ va_S A s.heap H locs
theorem gP.of {Sh : List gSh} {D : va_G} {cy : Nat → ClassId} {ad sa : Nat → Nat} {A : Nat → Prop} {σ : St} {s U : State} {H : Heap} {locs : List Loc} (F : gF Sh D cy ad sa A s) (Y : gY Sh D cy ad A σ s H locs) (hU : U.heap = H) (hW : s.WarmedH U.vm) : gP Sh D cy ad sa A σ U :=
  ⟨by rw [hU]; exact Y.1, va_K.moved hW.alike F.1, F.2.1, F.2.2.go Y.2 hU hW⟩
theorem gP.blind {Sh : List gSh} {D : va_G} {cy : Nat → ClassId} {ad sa : Nat → Nat} {A : Nat → Prop} {σ : St} {as : List Value} : FrameBlind (va_Pc as (gP Sh D cy ad sa A σ)) := fun a _ g mk h => ⟨h.1, h.2.calling g mk a⟩
/-- a field's link, and its class -/
def gfk (own : String) (idx ci k : Nat) : Prop := ∃ (C : String) (T : u_T) (N : Nat), vwCl[ci]? = some (C, T, N) ∧ (∀ w ∈ u_ws C T N, w ∈ gw) ∧ k < N ∧ Cond.fieldLink own idx (T k).1 (T k).2.1 (T k).2.2.1 ∈ gw
def gfp (own : String) (idx ci k : Nat) (ft : FieldType) : Prop := ∃ (C : String) (T : u_T) (N : Nat) (ty : Nat → FieldType), vwCl[ci]? = some (C, T, N) ∧ (∀ w ∈ u_ws C T N, w ∈ gw) ∧ k < N ∧ Cond.fieldLink own idx (T k).1 (T k).2.1 (T k).2.2.1 ∈ gw ∧ (∀ k, k < N → parseFieldDescriptor (T k).2.2.1 = some (ty k)) ∧ (∀ a, a < N → ∀ b, b < N → a ≠ b → (T a).2.1 ≠ (T b).2.1) ∧ (T k).2.2.2 = false ∧ ty k = ft
def gcs (own : String) (idx : Nat) (y : MethodName) (b : ByteArray) (n : Nat) (rt : Option FieldType) (k : Nat) : Prop :=
  (Cond.methodLink own idx y ∈ gw ∧ Cond.static y ∈ gw ∧ Cond.initialized y.cls ∈ gw ∧ Cond.code y b n rt ∈ gw) ∧ y.cls ≠ "java/lang/invoke/MethodHandle" ∧ y.cls ≠ "java/lang/invoke/VarHandle" ∧ (parseMethodDescriptor y.desc).map (fun d => d.parameters.length) = some k
def gcn (own : String) (idx : Nat) (y : MethodName) (host : String) (b : ByteArray) (n : Nat) (rt : Option FieldType) (k : Nat) : Prop :=
  ((own, idx, y, host) ∈ gNl ∧ Cond.static y ∈ gw ∧ Cond.initialized y.cls ∈ gw ∧ Cond.code y b n rt ∈ gw) ∧ y.cls ≠ "java/lang/invoke/MethodHandle" ∧ y.cls ≠ "java/lang/invoke/VarHandle" ∧ (parseMethodDescriptor y.desc).map (fun d => d.parameters.length) = some k
def gcv (own : String) (idx : Nat) (y : MethodName) (b : ByteArray) (n : Nat) (rt : Option FieldType) (k ci : Nat) : Prop :=
  (Cond.methodLink own idx y ∈ gw ∧ Cond.instanceMethod y ∈ gw ∧ Cond.selects y.cls y y ∈ gw ∧ Cond.initialized y.cls ∈ gw ∧ Cond.code y b n rt ∈ gw) ∧ (y.cls ≠ "java/lang/invoke/MethodHandle" ∧ y.cls ≠ "java/lang/invoke/VarHandle" ∧ (parseMethodDescriptor y.desc).map (fun d => d.parameters.length) = some k) ∧ ∃ q, vwCl[ci]? = some q ∧ q.1 = y.cls
section GR
variable {p : Program} {l : Launch} {e : Env} {R : Room} {s : State} {m : MethodId} {args : Array Value} {below : List Frame} {meth : Method} {c : Code} {H : Heap} {locs : List Loc} {Q : State → Prop}
variable {cc : ByteArray} {nL pc : Nat} {ls : Array Slot} {rest : List Value} {own : String} {Sh : List gSh} {D : va_G} {cy : Nat → ClassId} {ad sa : Nat → Nat} {A : Nat → Prop} {σ σ' : St}
theorem gr_get (X : gX p s m args c cc nL own) (F : gF Sh D cy ad sa A s) (Y : gY Sh D cy ad A σ s H locs) {cN ci idx k t : Nat} {fl : List Nat} (hf : gfk own idx ci k) (hc : Sh[cN]? = some (.inl (ci, fl))) (hk : fl[k]? = some t) (hdg : decode cc pc = .ok (.getfield idx, 3))
    (kk : W p l e R s m args below meth c H locs 0 0 Q (F0 m (pc + 3) ls (gv ad (σ.1 cN) (σ.2 cN) k t :: rest))) : W p l e R s m args below meth c H locs 0 0 Q (F0 m pc ls (.ref (ad cN) :: rest)) := by
  obtain ⟨C, T, N, h1, h2, h3, h4⟩ := hf
  exact va_get X.1 X.2.1 X.2.2.2.2 h2 X.2.2.2.1 F.1 Y.1 cN (gWl_get hc) h1 k h3 (X.2.2.2.2 _ h4) (fun _ h => h) (gV_get hk) hdg kk
theorem gr_getI (X : gX p s m args c cc nL own) (F : gF Sh D cy ad sa A s) (Y : gY Sh D cy ad A σ s H locs) {cN ci idx k : Nat} {fl : List Nat} (hf : gfk own idx ci k) (hc : Sh[cN]? = some (.inl (ci, fl))) (hk : fl[k]? = some 0) (hdg : decode cc pc = .ok (.getfield idx, 3))
    (kk : W p l e R s m args below meth c H locs 0 0 Q (F0 m (pc + 3) ls (.int (σ.1 cN k) :: rest))) : W p l e R s m args below meth c H locs 0 0 Q (F0 m pc ls (.ref (ad cN) :: rest)) := gr_get X F Y hf hc hk hdg kk
theorem gr_getJ (X : gX p s m args c cc nL own) (F : gF Sh D cy ad sa A s) (Y : gY Sh D cy ad A σ s H locs) {cN ci idx k : Nat} {fl : List Nat} (hf : gfk own idx ci k) (hc : Sh[cN]? = some (.inl (ci, fl))) (hk : fl[k]? = some 1) (hdg : decode cc pc = .ok (.getfield idx, 3))
    (kk : W p l e R s m args below meth c H locs 0 0 Q (F0 m (pc + 3) ls (.long (σ.2 cN k) :: rest))) : W p l e R s m args below meth c H locs 0 0 Q (F0 m pc ls (.ref (ad cN) :: rest)) := gr_get X F Y hf hc hk hdg kk
theorem gr_getR (X : gX p s m args c cc nL own) (F : gF Sh D cy ad sa A s) (Y : gY Sh D cy ad A σ s H locs) {cN ci idx k t : Nat} {fl : List Nat} (hf : gfk own idx ci k) (hc : Sh[cN]? = some (.inl (ci, fl))) (hk : fl[k]? = some (t + 2)) (hdg : decode cc pc = .ok (.getfield idx, 3))
    (kk : W p l e R s m args below meth c H locs 0 0 Q (F0 m (pc + 3) ls (.ref (ad t) :: rest))) : W p l e R s m args below meth c H locs 0 0 Q (F0 m pc ls (.ref (ad cN) :: rest)) := gr_get X F Y hf hc hk hdg kk
theorem gr_putI (X : gX p s m args c cc nL own) (F : gF Sh D cy ad sa A s) (Y : gY Sh D cy ad A σ s H locs) {cN ci idx k : Nat} {fl : List Nat} {v : Int32} (hf : gfp own idx ci k .int) (hc : Sh[cN]? = some (.inl (ci, fl))) (hk : fl[k]? = some 0) (hdg : decode cc pc = .ok (.putfield idx, 3))
    (kk : ∀ (H : Heap) (locs : List Loc), gY Sh D cy ad A (sI σ cN k v) s H locs → W p l e R s m args below meth c H locs 0 0 Q (F0 m (pc + 3) ls rest)) : W p l e R s m args below meth c H locs 0 0 Q (F0 m pc ls (.int v :: .ref (ad cN) :: rest)) := by
  obtain ⟨C, T, N, ty, h1, h2, h3, h4, h5, h6, h7, h8⟩ := hf
  refine va_put X.1 X.2.1 X.2.2.2.2 h2 ty h5 h6 X.2.2.2.1 F.1 Y.1 (F.2.1 σ) Y.2 cN (gWl_get hc) h1 k h3 (X.2.2.2.2 _ h4) (fun _ h => h) h7 (ty := .int) (v := .int v) (by rw [h5 k h3, h8]) rfl rfl (by rw [gV_len]; exact (List.getElem?_eq_some_iff.mp hk).1) hdg (fun H1 locs1 g1 _ g3 => ?_)
  refine kk H1 locs1 ⟨?_, g3⟩
  have e := gWl_setOf (cy := cy) (ad := ad) (σ := σ) (σ' := sI σ cN k v) hc sI_ne
  rw [(sI_eq σ cN k v).1, (sI_eq σ cN k v).2] at e
  rw [← e]
  show va_P D vwCl ((gWl Sh cy ad σ).set cN (ad cN, .inr (ci, gV ad (upd (σ.1 cN) k v) (σ.2 cN) fl 0))) H1
  have e2 := gV_setI ad (σ.1 cN) (σ.2 cN) v fl 0 k hk
  rw [Nat.zero_add] at e2
  rw [← e2]
  exact g1
theorem gr_putZ (X : gX p s m args c cc nL own) (F : gF Sh D cy ad sa A s) (Y : gY Sh D cy ad A σ s H locs) {cN ci idx k : Nat} {fl : List Nat} {v : Int32} (hv : v = 0 ∨ v = 1) (hf : gfp own idx ci k .boolean) (hc : Sh[cN]? = some (.inl (ci, fl))) (hk : fl[k]? = some 0) (hdg : decode cc pc = .ok (.putfield idx, 3))
    (kk : ∀ (H : Heap) (locs : List Loc), gY Sh D cy ad A (sI σ cN k v) s H locs → W p l e R s m args below meth c H locs 0 0 Q (F0 m (pc + 3) ls rest)) : W p l e R s m args below meth c H locs 0 0 Q (F0 m pc ls (.int v :: .ref (ad cN) :: rest)) := by
  obtain ⟨C, T, N, ty, h1, h2, h3, h4, h5, h6, h7, h8⟩ := hf
  refine va_put X.1 X.2.1 X.2.2.2.2 h2 ty h5 h6 X.2.2.2.1 F.1 Y.1 (F.2.1 σ) Y.2 cN (gWl_get hc) h1 k h3 (X.2.2.2.2 _ h4) (fun _ h => h) h7 (ty := .boolean) (v := .int v) (by rw [h5 k h3, h8]) (by rcases hv with rfl | rfl <;> rfl) (by rcases hv with rfl | rfl <;> rfl) (by rw [gV_len]; exact (List.getElem?_eq_some_iff.mp hk).1) hdg (fun H1 locs1 g1 _ g3 => ?_)
  refine kk H1 locs1 ⟨?_, g3⟩
  have e := gWl_setOf (cy := cy) (ad := ad) (σ := σ) (σ' := sI σ cN k v) hc sI_ne
  rw [(sI_eq σ cN k v).1, (sI_eq σ cN k v).2] at e
  rw [← e]
  show va_P D vwCl ((gWl Sh cy ad σ).set cN (ad cN, .inr (ci, gV ad (upd (σ.1 cN) k v) (σ.2 cN) fl 0))) H1
  have e2 := gV_setI ad (σ.1 cN) (σ.2 cN) v fl 0 k hk
  rw [Nat.zero_add] at e2
  rw [← e2]
  exact g1
theorem gr_putJ (X : gX p s m args c cc nL own) (F : gF Sh D cy ad sa A s) (Y : gY Sh D cy ad A σ s H locs) {cN ci idx k : Nat} {fl : List Nat} {v : Int64} (hf : gfp own idx ci k .long) (hc : Sh[cN]? = some (.inl (ci, fl))) (hk : fl[k]? = some 1) (hdg : decode cc pc = .ok (.putfield idx, 3))
    (kk : ∀ (H : Heap) (locs : List Loc), gY Sh D cy ad A (sJ σ cN k v) s H locs → W p l e R s m args below meth c H locs 0 0 Q (F0 m (pc + 3) ls rest)) : W p l e R s m args below meth c H locs 0 0 Q (F0 m pc ls (.long v :: .ref (ad cN) :: rest)) := by
  obtain ⟨C, T, N, ty, h1, h2, h3, h4, h5, h6, h7, h8⟩ := hf
  refine va_put X.1 X.2.1 X.2.2.2.2 h2 ty h5 h6 X.2.2.2.1 F.1 Y.1 (F.2.1 σ) Y.2 cN (gWl_get hc) h1 k h3 (X.2.2.2.2 _ h4) (fun _ h => h) h7 (ty := .long) (v := .long v) (by rw [h5 k h3, h8]) rfl rfl (by rw [gV_len]; exact (List.getElem?_eq_some_iff.mp hk).1) hdg (fun H1 locs1 g1 _ g3 => ?_)
  refine kk H1 locs1 ⟨?_, g3⟩
  have e := gWl_setOf (cy := cy) (ad := ad) (σ := σ) (σ' := sJ σ cN k v) hc sJ_ne
  rw [(sJ_eq σ cN k v).1, (sJ_eq σ cN k v).2] at e
  rw [← e]
  show va_P D vwCl ((gWl Sh cy ad σ).set cN (ad cN, .inr (ci, gV ad (σ.1 cN) (vp_updL (σ.2 cN) k v) fl 0))) H1
  have e2 := gV_setJ ad (σ.1 cN) (σ.2 cN) v fl 0 k hk
  rw [Nat.zero_add] at e2
  rw [← e2]
  exact g1
theorem gr_iald (X : gX p s m args c cc nL own) (F : gF Sh D cy ad sa A s) (Y : gY Sh D cy ad A σ s H locs) {cN n : Nat} {i : Int32} (hc : Sh[cN]? = some (.inr (0, n))) (hin : inb i n = true) (hdg : decode cc pc = .ok (.iaload, 1))
    (kk : W p l e R s m args below meth c H locs 0 0 Q (F0 m (pc + 1) ls (.int (σ.1 cN i.toNatClampNeg) :: rest))) : W p l e R s m args below meth c H locs 0 0 Q (F0 m pc ls (.int i :: .ref (ad cN) :: rest)) :=
  va_iald X.1 X.2.1 F.1 Y.1 cN 0 (gWl_get hc) rfl (inb_in hin) hdg kk
theorem gr_lald (X : gX p s m args c cc nL own) (F : gF Sh D cy ad sa A s) (Y : gY Sh D cy ad A σ s H locs) {cN n : Nat} {i : Int32} (hc : Sh[cN]? = some (.inr (1, n))) (hin : inb i n = true) (hdg : decode cc pc = .ok (.laload, 1))
    (kk : W p l e R s m args below meth c H locs 0 0 Q (F0 m (pc + 1) ls (.long (σ.2 cN i.toNatClampNeg) :: rest))) : W p l e R s m args below meth c H locs 0 0 Q (F0 m pc ls (.int i :: .ref (ad cN) :: rest)) :=
  va_lald X.1 X.2.1 F.1 Y.1 cN 1 (gWl_get hc) rfl (inb_in hin) hdg kk
theorem gr_cald (X : gX p s m args c cc nL own) (F : gF Sh D cy ad sa A s) (Y : gY Sh D cy ad A σ s H locs) {cN n : Nat} {i : Int32} (hc : Sh[cN]? = some (.inr (2, n))) (hin : inb i n = true) (hdg : decode cc pc = .ok (.caload, 1))
    (kk : W p l e R s m args below meth c H locs 0 0 Q (F0 m (pc + 1) ls (.int (σ.1 cN i.toNatClampNeg) :: rest))) : W p l e R s m args below meth c H locs 0 0 Q (F0 m pc ls (.int i :: .ref (ad cN) :: rest)) :=
  va_cald X.1 X.2.1 F.1 Y.1 cN 2 (gWl_get hc) rfl (inb_in hin) hdg kk
theorem gr_iast (X : gX p s m args c cc nL own) (F : gF Sh D cy ad sa A s) (Y : gY Sh D cy ad A σ s H locs) {cN n : Nat} {i x : Int32} (hc : Sh[cN]? = some (.inr (0, n))) (hin : inb i n = true) (hdg : decode cc pc = .ok (.iastore, 1))
    (kk : ∀ (H : Heap) (locs : List Loc), gY Sh D cy ad A (sI σ cN i.toNatClampNeg x) s H locs → W p l e R s m args below meth c H locs 0 0 Q (F0 m (pc + 1) ls rest)) : W p l e R s m args below meth c H locs 0 0 Q (F0 m pc ls (.int x :: .int i :: .ref (ad cN) :: rest)) := by
  refine va_iast X.1 X.2.1 F.1 Y.1 (F.2.1 σ) Y.2 cN 0 (gWl_get hc) rfl (inb_in hin) hdg (fun H1 locs1 g1 _ g3 => kk H1 locs1 ⟨?_, g3⟩)
  have e := gWl_setOf (cy := cy) (ad := ad) (σ := σ) (σ' := sI σ cN i.toNatClampNeg x) hc sI_ne
  rw [(sI_eq σ cN _ x).1, (sI_eq σ cN _ x).2] at e
  rw [← e]
  exact g1
theorem gr_cast (X : gX p s m args c cc nL own) (F : gF Sh D cy ad sa A s) (Y : gY Sh D cy ad A σ s H locs) {cN n : Nat} {i x : Int32} (hc : Sh[cN]? = some (.inr (2, n))) (hin : inb i n = true) (hdg : decode cc pc = .ok (.castore, 1))
    (kk : ∀ (H : Heap) (locs : List Loc), gY Sh D cy ad A (sI σ cN i.toNatClampNeg (vp_nar .char x)) s H locs → W p l e R s m args below meth c H locs 0 0 Q (F0 m (pc + 1) ls rest)) : W p l e R s m args below meth c H locs 0 0 Q (F0 m pc ls (.int x :: .int i :: .ref (ad cN) :: rest)) := by
  refine va_cast X.1 X.2.1 F.1 Y.1 (F.2.1 σ) Y.2 cN 2 (gWl_get hc) rfl (inb_in hin) hdg (fun H1 locs1 g1 _ g3 => kk H1 locs1 ⟨?_, g3⟩)
  have e := gWl_setOf (cy := cy) (ad := ad) (σ := σ) (σ' := sI σ cN i.toNatClampNeg (vp_nar .char x)) hc sI_ne
  rw [(sI_eq σ cN _ (vp_nar .char x)).1, (sI_eq σ cN _ (vp_nar .char x)).2] at e
  rw [← e]
  exact g1
theorem gr_last (X : gX p s m args c cc nL own) (F : gF Sh D cy ad sa A s) (Y : gY Sh D cy ad A σ s H locs) {cN n : Nat} {i : Int32} {x : Int64} (hc : Sh[cN]? = some (.inr (1, n))) (hin : inb i n = true) (hdg : decode cc pc = .ok (.lastore, 1))
    (kk : ∀ (H : Heap) (locs : List Loc), gY Sh D cy ad A (sJ σ cN i.toNatClampNeg x) s H locs → W p l e R s m args below meth c H locs 0 0 Q (F0 m (pc + 1) ls rest)) : W p l e R s m args below meth c H locs 0 0 Q (F0 m pc ls (.long x :: .int i :: .ref (ad cN) :: rest)) := by
  refine va_last X.1 X.2.1 F.1 Y.1 (F.2.1 σ) Y.2 cN 1 (gWl_get hc) rfl (inb_in hin) hdg (fun H1 locs1 g1 _ g3 => kk H1 locs1 ⟨?_, g3⟩)
  have e := gWl_setOf (cy := cy) (ad := ad) (σ := σ) (σ' := sJ σ cN i.toNatClampNeg x) hc sJ_ne
  rw [(sJ_eq σ cN _ x).1, (sJ_eq σ cN _ x).2] at e
  rw [← e]
  exact g1
theorem gr_alen (X : gX p s m args c cc nL own) (F : gF Sh D cy ad sa A s) (Y : gY Sh D cy ad A σ s H locs) {cN t n : Nat} {v : Int32} (hc : Sh[cN]? = some (.inr (t, n))) (ht : t < 3) (hv : Int32.ofNat n = v) (hdg : decode cc pc = .ok (.arraylength, 1))
    (kk : W p l e R s m args below meth c H locs 0 0 Q (F0 m (pc + 1) ls (.int v :: rest))) : W p l e R s m args below meth c H locs 0 0 Q (F0 m pc ls (.ref (ad cN) :: rest)) := by
  match t, ht, hc with
  | 0, _, hc => exact va_alen X.1 X.2.1 F.1 Y.1 cN 0 (gWl_get hc) rfl hv hdg kk
  | 1, _, hc => exact va_alen X.1 X.2.1 F.1 Y.1 cN 1 (gWl_get hc) rfl hv hdg kk
  | 2, _, hc => exact va_alen X.1 X.2.1 F.1 Y.1 cN 2 (gWl_get hc) rfl hv hdg kk
theorem gr_getS0 (X : gX p s m args c cc nL own) (F : gF Sh D cy ad sa A s) (Y : gY Sh D cy ad A σ s H locs) {idx : Nat} (hl : Cond.fieldLink own idx "SheGoesOut$Law" "SIGHTS" "[I" ∈ gw) (hdg : decode cc pc = .ok (.getstatic idx, 3))
    (kk : W p l e R s m args below meth c H locs 0 0 Q (F0 m (pc + 3) ls (.ref (sa 0) :: rest))) : W p l e R s m args below meth c H locs 0 0 Q (F0 m pc ls rest) :=
  va_gets X.1 X.2.1 F.2.2.1.1 Y.2 X.2.2.2.1 (X.2.2.2.2 _ hl) (fun _ h => h) hdg kk
theorem gr_getS1 (X : gX p s m args c cc nL own) (F : gF Sh D cy ad sa A s) (Y : gY Sh D cy ad A σ s H locs) {idx : Nat} (hl : Cond.fieldLink own idx "SheGoesOut$Night" "TURNS" "[I" ∈ gw) (hdg : decode cc pc = .ok (.getstatic idx, 3))
    (kk : W p l e R s m args below meth c H locs 0 0 Q (F0 m (pc + 3) ls (.ref (sa 1) :: rest))) : W p l e R s m args below meth c H locs 0 0 Q (F0 m pc ls rest) :=
  va_gets X.1 X.2.1 F.2.2.2.1.1 Y.2 X.2.2.2.1 (X.2.2.2.2 _ hl) (fun _ h => h) hdg kk
theorem gr_getSC (X : gX p s m args c cc nL own) (F : gF Sh D cy ad sa A s) (Y : gY Sh D cy ad A σ s H locs) {idx : Nat} (hl : Cond.fieldLink own idx "java/lang/String" "COMPACT_STRINGS" "Z" ∈ gw) (hdg : decode cc pc = .ok (.getstatic idx, 3))
    (kk : W p l e R s m args below meth c H locs 0 0 Q (F0 m (pc + 3) ls (.int 1 :: rest))) : W p l e R s m args below meth c H locs 0 0 Q (F0 m pc ls rest) :=
  va_gets X.1 X.2.1 F.2.2.2.2.1 Y.2 X.2.2.2.1 (X.2.2.2.2 _ hl) (fun _ h => h) hdg kk
theorem gr_tald (X : gX p s m args c cc nL own) (Y : gY Sh D cy ad A σ s H locs) {t n : Nat} {f : Nat → Int32} {i : Int32} (hT : va_T .int t n (fun j => .int (f j)) A s s.heap) (hin : inb i n = true) (hdg : decode cc pc = .ok (.iaload, 1))
    (kk : W p l e R s m args below meth c H locs 0 0 Q (F0 m (pc + 1) ls (.int (f i.toNatClampNeg) :: rest))) : W p l e R s m args below meth c H locs 0 0 Q (F0 m pc ls (.int i :: .ref t :: rest)) := by
  obtain ⟨cell, h1, h2, h3, h4, -, h5, -⟩ := hT.kept Y.2.2.1
  have hlt : i.toNatClampNeg < n := Nat.not_le.mp fun q => inb_in hin (Or.inr q)
  exact W.iald (v := .int (f i.toNatClampNeg)) X.1 X.2.1 h1 h2 h3 (fun q => q.elim (fun a => inb_in hin (Or.inl a)) (fun a => absurd hlt (by omega))) (h5 _ hlt) rfl rfl hdg kk
theorem gr_tald0 (X : gX p s m args c cc nL own) (F : gF Sh D cy ad sa A s) (Y : gY Sh D cy ad A σ s H locs) {i : Int32} (hin : inb i 32 = true) (hdg : decode cc pc = .ok (.iaload, 1))
    (kk : W p l e R s m args below meth c H locs 0 0 Q (F0 m (pc + 1) ls (.int (gSights i.toNatClampNeg) :: rest))) : W p l e R s m args below meth c H locs 0 0 Q (F0 m pc ls (.int i :: .ref (sa 0) :: rest)) := gr_tald X Y F.2.2.1.2 hin hdg kk
theorem gr_tald1 (X : gX p s m args c cc nL own) (F : gF Sh D cy ad sa A s) (Y : gY Sh D cy ad A σ s H locs) {i : Int32} (hin : inb i 4 = true) (hdg : decode cc pc = .ok (.iaload, 1))
    (kk : W p l e R s m args below meth c H locs 0 0 Q (F0 m (pc + 1) ls (.int (gTurns i.toNatClampNeg) :: rest))) : W p l e R s m args below meth c H locs 0 0 Q (F0 m pc ls (.int i :: .ref (sa 1) :: rest)) := gr_tald X Y F.2.2.2.1.2 hin hdg kk
theorem gr_cpI (X : gX p s m args c cc nL own) (F : gF Sh D cy ad sa A s) (Y : gY Sh D cy ad A σ s H locs) {cS cD n0 n1 idx : Nat} {sp dp n : Int32} (hml : ls.size = nL) (hl : Cond.methodLink own idx arraycopyName ∈ gw) (hnat : Cond.native arraycopyName ∈ gw ∧ Cond.static arraycopyName ∈ gw ∧ Cond.initialized "java/lang/System" ∈ gw) (hc0 : Sh[cS]? = some (.inr (0, n0))) (hc1 : Sh[cD]? = some (.inr (0, n1)))
    (hb : ¬ sp < 0 ∧ ¬ dp < 0 ∧ ¬ n < 0 ∧ sp.toNatClampNeg + n.toNatClampNeg ≤ n0 ∧ dp.toNatClampNeg + n.toNatClampNeg ≤ n1) (hR : 1 ≤ R.frames ∧ (rest.map fun v => v.category).sum + (nativeFrameWords "java/lang/System" "arraycopy" 5 + 11) ≤ R.locals) (hdg : decode cc pc = .ok (.invokestatic idx, 3))
    (kk : ∀ (H : Heap) (locs : List Loc), gY Sh D cy ad A (rI σ cD (va_cpy (σ.1 cS) (σ.1 cD) sp.toNatClampNeg dp.toNatClampNeg n.toNatClampNeg)) s H locs → W p l e R s m args below meth c H locs 0 0 Q (F0 m (pc + 3) ls rest)) : W p l e R s m args below meth c H locs 0 0 Q (F0 m pc ls (.int n :: .int dp :: .ref (ad cD) :: .int sp :: .ref (ad cS) :: rest)) := by
  obtain ⟨b1, b2, b3, b4, b5⟩ := hb
  refine va_copyi X.1 X.2.1 (X.2.2.1.trans hml.symm) X.2.2.2.1 (X.2.2.2.2 _ hl) (X.2.2.2.2 _ hnat.1) (X.2.2.2.2 _ hnat.2.1) (X.2.2.2.2 _ hnat.2.2) F.1 Y.1 (F.2.1 σ) Y.2 cS cD 0 0 (gWl_get hc0) (gWl_get hc1) rfl rfl rfl b1 b2 b3 b4 b5 (fun _ _ => rfl) hR.1 hR.2 hdg (fun H1 locs1 g1 _ g3 => kk H1 locs1 ⟨?_, g3⟩)
  have e := gWl_setOf (cy := cy) (ad := ad) (σ := σ) (σ' := rI σ cD (va_cpy (σ.1 cS) (σ.1 cD) sp.toNatClampNeg dp.toNatClampNeg n.toNatClampNeg)) hc1 rI_ne
  rw [(rI_eq σ cD _).1, (rI_eq σ cD _).2] at e
  rw [← e]
  exact g1
theorem gr_cpJ (X : gX p s m args c cc nL own) (F : gF Sh D cy ad sa A s) (Y : gY Sh D cy ad A σ s H locs) {cS cD n0 n1 idx : Nat} {sp dp n : Int32} (hml : ls.size = nL) (hl : Cond.methodLink own idx arraycopyName ∈ gw) (hnat : Cond.native arraycopyName ∈ gw ∧ Cond.static arraycopyName ∈ gw ∧ Cond.initialized "java/lang/System" ∈ gw) (hc0 : Sh[cS]? = some (.inr (1, n0))) (hc1 : Sh[cD]? = some (.inr (1, n1)))
    (hb : ¬ sp < 0 ∧ ¬ dp < 0 ∧ ¬ n < 0 ∧ sp.toNatClampNeg + n.toNatClampNeg ≤ n0 ∧ dp.toNatClampNeg + n.toNatClampNeg ≤ n1) (hR : 1 ≤ R.frames ∧ (rest.map fun v => v.category).sum + (nativeFrameWords "java/lang/System" "arraycopy" 5 + 11) ≤ R.locals) (hdg : decode cc pc = .ok (.invokestatic idx, 3))
    (kk : ∀ (H : Heap) (locs : List Loc), gY Sh D cy ad A (rJ σ cD (va_cpy (σ.2 cS) (σ.2 cD) sp.toNatClampNeg dp.toNatClampNeg n.toNatClampNeg)) s H locs → W p l e R s m args below meth c H locs 0 0 Q (F0 m (pc + 3) ls rest)) : W p l e R s m args below meth c H locs 0 0 Q (F0 m pc ls (.int n :: .int dp :: .ref (ad cD) :: .int sp :: .ref (ad cS) :: rest)) := by
  obtain ⟨b1, b2, b3, b4, b5⟩ := hb
  refine va_copyl X.1 X.2.1 (X.2.2.1.trans hml.symm) X.2.2.2.1 (X.2.2.2.2 _ hl) (X.2.2.2.2 _ hnat.1) (X.2.2.2.2 _ hnat.2.1) (X.2.2.2.2 _ hnat.2.2) F.1 Y.1 (F.2.1 σ) Y.2 cS cD 1 1 (gWl_get hc0) (gWl_get hc1) rfl rfl rfl b1 b2 b3 b4 b5 (fun _ _ => rfl) hR.1 hR.2 hdg (fun H1 locs1 g1 _ g3 => kk H1 locs1 ⟨?_, g3⟩)
  have e := gWl_setOf (cy := cy) (ad := ad) (σ := σ) (σ' := rJ σ cD (va_cpy (σ.2 cS) (σ.2 cD) sp.toNatClampNeg dp.toNatClampNeg n.toNatClampNeg)) hc1 rJ_ne
  rw [(rJ_eq σ cD _).1, (rJ_eq σ cD _).2] at e
  rw [← e]
  exact g1
variable {y : MethodName} {b : ByteArray} {n d idx : Nat} {rt : Option FieldType} {as : List Value} {host : String}
theorem gr_runS (X : gX p s m args c cc nL own) (F : gF Sh D cy ad sa A s) (Y : gY Sh D cy ad A σ s H locs) {Qc : Array Value → State → Outcome → State → Prop} (hM : Met l y (Cond.code y b n rt :: gw) (grm d) (va_Pc as (gP Sh D cy ad sa A σ)) Qc 0 0 A) (hl : gcs own idx y b n rt as.length) (hR : d + 1 ≤ R.frames ∧ 8 + (n + 11) + 40 * d ≤ R.locals) {st0 : List Value} (hst : st0 = as.reverse ++ rest) (hsz : ls.size = nL) (hrm : (rest.map fun v => v.category).sum ≤ 8) (hdg : decode cc pc = .ok (.invokestatic idx, 3)) : va_Run p l e R s m args below meth c H locs 0 0 0 0 (F0 m pc ls st0) rest (Qc as.toArray) A := by
  obtain ⟨⟨h1, h2, h3, h4⟩, h5, h6, h7⟩ := hl
  have hG : GoodIn gw (va_wsS own idx y (Cond.code y b n rt :: gw)) := gw_goodIn (fun w hw => by
    unfold va_wsS at hw
    simp only [List.mem_append, List.mem_cons, List.not_mem_nil, or_false] at hw
    rcases hw with (rfl | rfl | rfl) | rfl | hw
    · exact h1
    · exact h2
    · exact h3
    · exact h4
    · exact hw)
  exact va_runS (nL := nL) ⟨X.1, X.2.1, X.2.2.1, X.2.2.2.1, X.2.2.2.2⟩ hM (va_cwS as.length X.2.2.2.2 hG rfl rfl rfl ⟨h5, h6, h7⟩ hR) ⟨gP.blind, fun U hU hW => ⟨rfl, gP.of F Y hU hW⟩⟩ rfl rfl hsz hst (lv_room hrm) hdg ⟨Nat.zero_le _, Nat.zero_le _⟩
theorem gr_runN (X : gX p s m args c cc nL own) (F : gF Sh D cy ad sa A s) (Y : gY Sh D cy ad A σ s H locs) {Qc : Array Value → State → Outcome → State → Prop} (hM : Met l y (Cond.code y b n rt :: gw) (grm d) (va_Pc as (gP Sh D cy ad sa A σ)) Qc 0 0 A) (hl : gcn own idx y host b n rt as.length) (hR : d + 1 ≤ R.frames ∧ 8 + (n + 11) + 40 * d ≤ R.locals) {st0 : List Value} (hst : st0 = as.reverse ++ rest) (hsz : ls.size = nL) (hrm : (rest.map fun v => v.category).sum ≤ 8) (hdg : decode cc pc = .ok (.invokestatic idx, 3)) : va_Run p l e R s m args below meth c H locs 0 0 0 0 (F0 m pc ls st0) rest (Qc as.toArray) A := by
  obtain ⟨⟨h1, h2, h3, h4⟩, h5, h6, h7⟩ := hl
  have hG : GoodIn gw (Cond.code y b n rt :: gw) := gw_goodIn (fun w hw => by
    rcases List.mem_cons.mp hw with rfl | hw
    · exact h4
    · exact hw)
  exact va_runSN (nL := nL) (host := host) ⟨X.1, X.2.1, X.2.2.1, X.2.2.2.1, X.2.2.2.2⟩ hM ⟨va_cnB as.length X.2.2.2.2 hG rfl rfl rfl (F.2.2.2.2.2.2.2 _ h1) (X.2.2.2.2 _ h3) ⟨h5, h6, h7⟩ hR, X.2.2.2.2 _ h2, trivial⟩ ⟨gP.blind, fun U hU hW => ⟨rfl, gP.of F Y hU hW⟩⟩ rfl rfl hsz hst (lv_room hrm) hdg ⟨Nat.zero_le _, Nat.zero_le _⟩
theorem gr_runV (X : gX p s m args c cc nL own) (F : gF Sh D cy ad sa A s) (Y : gY Sh D cy ad A σ s H locs) {Qc : Array Value → State → Outcome → State → Prop} {cN ci : Nat} {fl : List Nat} (hM : Met l y (Cond.code y b n rt :: gw) (grm d) (va_Pc (.ref (ad cN) :: as) (gP Sh D cy ad sa A σ)) Qc 0 0 A) (hl : gcv own idx y b n rt as.length ci) (hc : Sh[cN]? = some (.inl (ci, fl))) (hR : d + 1 ≤ R.frames ∧ 8 + (n + 11) + 40 * d ≤ R.locals) {st0 : List Value} (hst : st0 = as.reverse ++ .ref (ad cN) :: rest) (hsz : ls.size = nL) (hrm : (rest.map fun v => v.category).sum ≤ 8) (hdg : decode cc pc = .ok (.invokevirtual idx, 3)) : va_Run p l e R s m args below meth c H locs 0 0 0 0 (F0 m pc ls st0) rest (Qc (Value.ref (ad cN) :: as).toArray) A := by
  obtain ⟨⟨h1, h2, h8, h3, h4⟩, ⟨h5, h6, h7⟩, q, h9, h10⟩ := hl
  have hG : GoodIn gw (wsV own idx y.cls y (Cond.code y b n rt :: gw)) := gw_goodIn (fun w hw => by
    unfold wsV at hw
    simp only [List.mem_append, List.mem_cons, List.not_mem_nil, or_false] at hw
    rcases hw with (rfl | rfl | rfl | rfl) | rfl | hw
    · exact h1
    · exact h2
    · exact h8
    · exact h3
    · exact h4
    · exact hw)
  refine va_runV (nL := nL) (C := y.cls) ⟨X.1, X.2.1, X.2.2.1, X.2.2.2.1, X.2.2.2.2⟩ hM (cwV as.length X.2.2.2.2 hG rfl rfl rfl ⟨rfl, h5, h6, h7⟩ hR) ⟨gP.blind, ?_, fun U hU hW => ⟨rfl, gP.of F Y hU hW⟩⟩ rfl rfl hsz hst (lv_room hrm) hdg ⟨Nat.zero_le _, Nat.zero_le _⟩
  rw [← h10]
  exact va_recv F.1 Y.1 h9 (gWl_get hc)
theorem gr_backi (Y : gY Sh D cy ad A σ s H locs) {st0 : List Value} {a : Array Value} {r : Int32} (hr : va_Run p l e R s m args below meth c H locs 0 0 0 0 (F0 m pc ls st0) rest ((va_Qi (fun (q : Int32) (_ : Unit) => q = r) (fun _ t => va_P D vwCl (gWl Sh cy ad σ') t.heap) A) a) A)
    (kk : ∀ (H : Heap) (locs : List Loc), gY Sh D cy ad A σ' s H locs → W p l e R s m args below meth c H locs 0 0 Q (F0 m (pc + 3) ls (.int r :: rest))) : W p l e R s m args below meth c H locs 0 0 Q (F0 m pc ls st0) :=
  va_calli hr Y.2 (fun _ _ h => h) (fun _ h => h) (fun r1 u t H1 locs1 ht _ hp hB _ _ hS => by
    subst hp
    rw [ht] at hB
    exact kk H1 locs1 ⟨hB, hS⟩)
theorem gr_backl (Y : gY Sh D cy ad A σ s H locs) {st0 : List Value} {a : Array Value} {r : Int64} (hr : va_Run p l e R s m args below meth c H locs 0 0 0 0 (F0 m pc ls st0) rest ((va_Ql (fun (q : Int64) (_ : Unit) => q = r) (fun _ t => va_P D vwCl (gWl Sh cy ad σ') t.heap) A) a) A)
    (kk : ∀ (H : Heap) (locs : List Loc), gY Sh D cy ad A σ' s H locs → W p l e R s m args below meth c H locs 0 0 Q (F0 m (pc + 3) ls (.long r :: rest))) : W p l e R s m args below meth c H locs 0 0 Q (F0 m pc ls st0) :=
  va_calll hr Y.2 (fun _ _ h => h) (fun _ h => h) (fun r1 u t H1 locs1 ht _ hp hB _ _ hS => by
    subst hp
    rw [ht] at hB
    exact kk H1 locs1 ⟨hB, hS⟩)
theorem gr_backv (Y : gY Sh D cy ad A σ s H locs) {st0 : List Value} {a : Array Value} (hr : va_Run p l e R s m args below meth c H locs 0 0 0 0 (F0 m pc ls st0) rest ((va_Qv (fun (_ : Unit) => True) (fun _ t => va_P D vwCl (gWl Sh cy ad σ') t.heap) A) a) A)
    (kk : ∀ (H : Heap) (locs : List Loc), gY Sh D cy ad A σ' s H locs → W p l e R s m args below meth c H locs 0 0 Q (F0 m (pc + 3) ls rest)) : W p l e R s m args below meth c H locs 0 0 Q (F0 m pc ls st0) :=
  va_callv hr Y.2 (fun _ _ h => h) (fun _ h => h) (fun u t H1 locs1 ht _ _ hB _ _ hS => by
    rw [ht] at hB
    exact kk H1 locs1 ⟨hB, hS⟩)
/-! ends -/
theorem gr_iret (X : gX p s m args c cc nL own) (Y : gY Sh D cy ad A σ s H locs) {v : Int32} {ty : FieldType} (hr : meth.sig.returnType = some ty) (hn : narrow ty (.int v) = .int v) (hlocks : meth.locks = false) (hdg : decode cc pc = .ok (.ireturn, 1)) :
    W p l e R s m args below meth c H locs 0 0 (MQ below (va_Qi (fun (q : Int32) (_ : Unit) => q = v) (fun _ t => va_P D vwCl (gWl Sh cy ad σ) t.heap) A) args s 0 0 A) (F0 m pc ls [.int v]) :=
  W.zret X.1 X.2.1 hr hn (fun t ht _ => ⟨⟨v, (), rfl, rfl, by show va_P D vwCl (gWl Sh cy ad σ) t.heap; rw [ht]; exact Y.1⟩, Y.2.F ht⟩) Y.2.2.2 hdg hlocks
theorem gr_lret (X : gX p s m args c cc nL own) (Y : gY Sh D cy ad A σ s H locs) {v : Int64} (hr : meth.sig.returnType = some .long) (hlocks : meth.locks = false) (hdg : decode cc pc = .ok (.lreturn, 1)) :
    W p l e R s m args below meth c H locs 0 0 (MQ below (va_Ql (fun (q : Int64) (_ : Unit) => q = v) (fun _ t => va_P D vwCl (gWl Sh cy ad σ) t.heap) A) args s 0 0 A) (F0 m pc ls [.long v]) :=
  W.lret X.1 X.2.1 hr (fun t ht _ => ⟨⟨v, (), rfl, rfl, by show va_P D vwCl (gWl Sh cy ad σ) t.heap; rw [ht]; exact Y.1⟩, Y.2.F ht⟩) Y.2.2.2 hdg hlocks
theorem gr_vret (X : gX p s m args c cc nL own) (Y : gY Sh D cy ad A σ s H locs) (hr : meth.sig.returnType = none) (hlocks : meth.locks = false) (hdg : decode cc pc = .ok (.return_, 1)) :
    W p l e R s m args below meth c H locs 0 0 (MQ below (va_Qv (fun (_ : Unit) => True) (fun _ t => va_P D vwCl (gWl Sh cy ad σ) t.heap) A) args s 0 0 A) (F0 m pc ls []) :=
  W.vret X.1 X.2.1 hr (fun t ht _ => ⟨⟨(), rfl, trivial, by show va_P D vwCl (gWl Sh cy ad σ) t.heap; rw [ht]; exact Y.1⟩, Y.2.F ht⟩) Y.2.2.2 hdg hlocks
end GR
theorem gz_nar {v : Int32} (h : v = 0 ∨ v = 1) : narrow .boolean (.int v) = .int v := by rcases h with rfl | rfl <;> rfl
/-- a method's body, from its start -/
theorem gM_of {l : Launch} {Sh : List gSh} {D : va_G} {cy : Nat → ClassId} {ad sa : Nat → Nat} {A : Nat → Prop} {y : MethodName} {b : ByteArray} {n : Nat} {rt : Option FieldType} {d : Nat} {as : List Value} {σ : St} {Qc : Array Value → State → Outcome → State → Prop} (hy : plainName y.cls = true) (hn : (lg_sl as).length ≤ n)
    (body : ∀ (p : Program) (e : Env) (s : State) (m : MethodId) (args : Array Value) (below : List Frame) (meth : Method) (c : Code) (ls : Array Slot), gX p s m args c b n y.cls → gF Sh D cy ad sa A s → gY Sh D cy ad A σ s s.heap [] → meth.sig.returnType = rt → meth.locks = false → lv_has ls n (lv_args 0 as) → W p l e (grm d) s m args below meth c s.heap [] 0 0 (MQ below Qc args s 0 0 A) (F0 m 0 ls [])) : Met l y (Cond.code y b n rt :: gw) (grm d) (va_Pc as (gP Sh D cy ad sa A σ)) Qc 0 0 A := by
  refine Met.ofW (cc := b) (maxL := n) (ret := rt) hy rfl ?_
  intro p e s m args below meth c s₁ B hml hv
  obtain ⟨rfl, hP, hK, hD, hSF⟩ := hv
  have hts := atoms_spec (ws := Cond.code y b n rt :: gw) B.pre
  have hown : s.vm.findClass y.cls = some m.cls := findClass_of_methodNamed B.named
  have hl := lv_entry as (n := n) hn
  rw [lg_entry_eq]
  exact body p e s m as.toArray below meth c _ ⟨B.exec, B.bytes, hml, hown, fun w hw => hts w (List.mem_cons_of_mem _ hw)⟩ ⟨hK, hD, hSF⟩ ⟨hP, va_S.rf⟩ B.returns B.notSynchronized hl
/-! mirrors: loops, calls, ifs -/
def lp {α : Type} (z : α) (b : α → α) : Nat → α
  | 0 => z
  | n + 1 => b (lp z b n)
theorem lp_succ {α : Type} (z : α) (b : α → α) (n : Nat) : lp z b (n + 1) = b (lp z b n) := rfl
theorem lp_zero {α : Type} (z : α) (b : α → α) : lp z b 0 = z := rfl
def gB {O : Type} (x : Option St) (k : St → Option O) : Option O := match x with
  | none => none
  | some s => k s
def gB2 {T O : Type} (x : Option (T × St)) (k : T → St → Option O) : Option O := match x with
  | none => none
  | some q => k q.1 q.2
def cpI (σ : St) (cS cD sp dp n : Nat) : St := rI σ cD (va_cpy (σ.1 cS) (σ.1 cD) sp dp n)
def cpJ (σ : St) (cS cD sp dp n : Nat) : St := rJ σ cD (va_cpy (σ.2 cS) (σ.2 cD) sp dp n)
theorem gnone {O : Type} {o : O} (h : (none : Option O) = some o) : False := by cases h
theorem gB_some {O : Type} {x : Option St} {k : St → Option O} {o : O} (h : gB x k = some o) : ∃ s, x = some s ∧ k s = some o := by
  cases x with
  | none => cases h
  | some s => exact ⟨s, rfl, h⟩
theorem gB2_some {T O : Type} {x : Option (T × St)} {k : T → St → Option O} {o : O} (h : gB2 x k = some o) : ∃ (r : T) (s : St), x = some (r, s) ∧ k r s = some o := by
  cases x with
  | none => cases h
  | some q => exact ⟨q.1, q.2, rfl, h⟩
theorem gI_pos {O : Type} {c : Prop} [Decidable c] {a b : Option O} {o : O} (h : (if c then a else b) = some o) (hc : c) : a = some o := by rwa [if_pos hc] at h
theorem gI_neg {O : Type} {c : Prop} [Decidable c] {a b : Option O} {o : O} (h : (if c then a else b) = some o) (hc : ¬ c) : b = some o := by rwa [if_neg hc] at h
theorem gI_if {O : Type} {c : Prop} [Decidable c] {a : Option O} {o : O} (h : (if c then a else none) = some o) : c ∧ a = some o := by
  by_cases hc : c
  · exact ⟨hc, by rwa [if_pos hc] at h⟩
  · rw [if_neg hc] at h; cases h
theorem gI_nz {O : Type} {c : Prop} [Decidable c] {a : Option O} {o : O} (h : (if c then none else a) = some o) : ¬ c ∧ a = some o := by
  by_cases hc : c
  · rw [if_pos hc] at h; cases h
  · exact ⟨hc, by rwa [if_neg hc] at h⟩
def gcw (own : String) (idx : Nat) (y : MethodName) (b : ByteArray) (n : Nat) (rt : Option FieldType) (k : Nat) : Prop :=
  (Cond.methodLink own idx y ∈ gw ∧ Cond.instanceMethod y ∈ gw ∧ Cond.selects y.cls y y ∈ gw ∧ Cond.initialized y.cls ∈ gw ∧ Cond.code y b n rt ∈ gw) ∧ (y.cls ≠ "java/lang/invoke/MethodHandle" ∧ y.cls ≠ "java/lang/invoke/VarHandle" ∧ (parseMethodDescriptor y.desc).map (fun d => d.parameters.length) = some k)
section GR2
variable {p : Program} {l : Launch} {e : Env} {R : Room} {s : State} {m : MethodId} {args : Array Value} {below : List Frame} {meth : Method} {c : Code} {H : Heap} {locs : List Loc} {Q : State → Prop}
variable {cc : ByteArray} {nL pc : Nat} {ls : Array Slot} {rest : List Value} {own : String} {Sh : List gSh} {D : va_G} {cy : Nat → ClassId} {ad sa : Nat → Nat} {A : Nat → Prop} {σ σ' : St}
theorem gr_iretO (X : gX p s m args c cc nL own) (Y : gY Sh D cy ad A σ s H locs) {v r : Int32} {ty : FieldType} (h : some (v, σ) = some (r, σ')) (hr : meth.sig.returnType = some ty) (hn : narrow ty (.int v) = .int v) (hlocks : meth.locks = false) (hdg : decode cc pc = .ok (.ireturn, 1)) :
    W p l e R s m args below meth c H locs 0 0 (MQ below (va_Qi (fun (q : Int32) (_ : Unit) => q = r) (fun _ t => va_P D vwCl (gWl Sh cy ad σ') t.heap) A) args s 0 0 A) (F0 m pc ls [.int v]) := by
  cases h
  exact gr_iret X Y hr hn hlocks hdg
theorem gr_lretO (X : gX p s m args c cc nL own) (Y : gY Sh D cy ad A σ s H locs) {v r : Int64} (h : some (v, σ) = some (r, σ')) (hr : meth.sig.returnType = some .long) (hlocks : meth.locks = false) (hdg : decode cc pc = .ok (.lreturn, 1)) :
    W p l e R s m args below meth c H locs 0 0 (MQ below (va_Ql (fun (q : Int64) (_ : Unit) => q = r) (fun _ t => va_P D vwCl (gWl Sh cy ad σ') t.heap) A) args s 0 0 A) (F0 m pc ls [.long v]) := by
  cases h
  exact gr_lret X Y hr hlocks hdg
theorem gr_vretO (X : gX p s m args c cc nL own) (Y : gY Sh D cy ad A σ s H locs) (h : some σ = some σ') (hr : meth.sig.returnType = none) (hlocks : meth.locks = false) (hdg : decode cc pc = .ok (.return_, 1)) :
    W p l e R s m args below meth c H locs 0 0 (MQ below (va_Qv (fun (_ : Unit) => True) (fun _ t => va_P D vwCl (gWl Sh cy ad σ') t.heap) A) args s 0 0 A) (F0 m pc ls []) := by
  cases h
  exact gr_vret X Y hr hlocks hdg
theorem gr_tbld (X : gX p s m args c cc nL own) (Y : gY Sh D cy ad A σ s H locs) {t n : Nat} {f : Nat → Int32} {i : Int32} (hT : va_T .byte t n (fun j => .int (f j)) A s s.heap) (hin : inb i n = true) (hdg : decode cc pc = .ok (.baload, 1))
    (kk : W p l e R s m args below meth c H locs 0 0 Q (F0 m (pc + 1) ls (.int (f i.toNatClampNeg) :: rest))) : W p l e R s m args below meth c H locs 0 0 Q (F0 m pc ls (.int i :: .ref t :: rest)) := by
  obtain ⟨cell, h1, h2, h3, h4, -, h5, -⟩ := hT.kept Y.2.2.1
  have hlt : i.toNatClampNeg < n := Nat.not_le.mp fun q => inb_in hin (Or.inr q)
  exact W.bald (v := .int (f i.toNatClampNeg)) X.1 X.2.1 h1 h2 h3 (fun q => q.elim (fun a => inb_in hin (Or.inl a)) (fun a => absurd hlt (by omega))) (h5 _ hlt) rfl rfl hdg kk
theorem gr_tald4 (X : gX p s m args c cc nL own) (F : gF Sh D cy ad sa A s) (Y : gY Sh D cy ad A σ s H locs) {i : Int32} (hin : inb i 8 = true) (hdg : decode cc pc = .ok (.baload, 1))
    (kk : W p l e R s m args below meth c H locs 0 0 Q (F0 m (pc + 1) ls (.int (gKL i.toNatClampNeg) :: rest))) : W p l e R s m args below meth c H locs 0 0 Q (F0 m pc ls (.int i :: .ref (sa 4) :: rest)) := gr_tbld X Y F.2.2.2.2.2.1.2.2.2.2 hin hdg kk
theorem gr_tald5 (X : gX p s m args c cc nL own) (F : gF Sh D cy ad sa A s) (Y : gY Sh D cy ad A σ s H locs) {i : Int32} (hin : inb i 6 = true) (hdg : decode cc pc = .ok (.baload, 1))
    (kk : W p l e R s m args below meth c H locs 0 0 Q (F0 m (pc + 1) ls (.int (gSL i.toNatClampNeg) :: rest))) : W p l e R s m args below meth c H locs 0 0 Q (F0 m pc ls (.int i :: .ref (sa 5) :: rest)) := gr_tbld X Y F.2.2.2.2.2.2.1.2.2.2.2 hin hdg kk
theorem gr_tlen (X : gX p s m args c cc nL own) (Y : gY Sh D cy ad A σ s H locs) {t n : Nat} {f : Nat → Value} {ty : FieldType} {v : Int32} (hT : va_T ty t n f A s s.heap) (hv : Int32.ofNat n = v) (hdg : decode cc pc = .ok (.arraylength, 1))
    (kk : W p l e R s m args below meth c H locs 0 0 Q (F0 m (pc + 1) ls (.int v :: rest))) : W p l e R s m args below meth c H locs 0 0 Q (F0 m pc ls (.ref t :: rest)) := by
  obtain ⟨cell, h1, h2, h3, h4, h5, -⟩ := hT.kept Y.2.2.1
  exact W.alen (n := v) X.1 X.2.1 h1 h2 (h5.trans hv) rfl rfl hdg kk
theorem gr_tlen4 (X : gX p s m args c cc nL own) (F : gF Sh D cy ad sa A s) (Y : gY Sh D cy ad A σ s H locs) (hdg : decode cc pc = .ok (.arraylength, 1))
    (kk : W p l e R s m args below meth c H locs 0 0 Q (F0 m (pc + 1) ls (.int 8 :: rest))) : W p l e R s m args below meth c H locs 0 0 Q (F0 m pc ls (.ref (sa 4) :: rest)) := gr_tlen X Y F.2.2.2.2.2.1.2.2.2.2 rfl hdg kk
theorem gr_tlen5 (X : gX p s m args c cc nL own) (F : gF Sh D cy ad sa A s) (Y : gY Sh D cy ad A σ s H locs) (hdg : decode cc pc = .ok (.arraylength, 1))
    (kk : W p l e R s m args below meth c H locs 0 0 Q (F0 m (pc + 1) ls (.int 6 :: rest))) : W p l e R s m args below meth c H locs 0 0 Q (F0 m pc ls (.ref (sa 5) :: rest)) := gr_tlen X Y F.2.2.2.2.2.2.1.2.2.2.2 rfl hdg kk
theorem gr_ldcS2 (X : gX p s m args c cc nL "SheGoesOut$Tape") (F : gF Sh D cy ad sa A s) (_ : gY Sh D cy ad A σ s H locs) (hdg : decode cc pc = .ok (.ldc 46, 2))
    (kk : W p l e R s m args below meth c H locs 0 0 Q (F0 m (pc + 2) ls (.ref (sa 2) :: rest))) : W p l e R s m args below meth c H locs 0 0 Q (F0 m pc ls rest) := va_ldcS X.1 X.2.1 X.2.2.2.1 F.2.2.2.2.2.1.1 hdg kk
theorem gr_ldcS3 (X : gX p s m args c cc nL "SheGoesOut$Tape") (F : gF Sh D cy ad sa A s) (_ : gY Sh D cy ad A σ s H locs) (hdg : decode cc pc = .ok (.ldc 59, 2))
    (kk : W p l e R s m args below meth c H locs 0 0 Q (F0 m (pc + 2) ls (.ref (sa 3) :: rest))) : W p l e R s m args below meth c H locs 0 0 Q (F0 m pc ls rest) := va_ldcS X.1 X.2.1 X.2.2.2.1 F.2.2.2.2.2.2.1.1 hdg kk
theorem gr_getV2 (X : gX p s m args c cc nL own) (F : gF Sh D cy ad sa A s) (Y : gY Sh D cy ad A σ s H locs) {idx : Nat} (hl : Cond.fieldLink own idx "java/lang/String" "value" "[B" ∈ gw) (hdg : decode cc pc = .ok (.getfield idx, 3))
    (kk : W p l e R s m args below meth c H locs 0 0 Q (F0 m (pc + 3) ls (.ref (sa 4) :: rest))) : W p l e R s m args below meth c H locs 0 0 Q (F0 m pc ls (.ref (sa 2) :: rest)) := vk_getf X.1 X.2.1 F.2.2.2.2.2.1.2.2.2.1 Y.2 X.2.2.2.1 (X.2.2.2.2 _ hl) (fun _ h => h) hdg kk
theorem gr_getV3 (X : gX p s m args c cc nL own) (F : gF Sh D cy ad sa A s) (Y : gY Sh D cy ad A σ s H locs) {idx : Nat} (hl : Cond.fieldLink own idx "java/lang/String" "value" "[B" ∈ gw) (hdg : decode cc pc = .ok (.getfield idx, 3))
    (kk : W p l e R s m args below meth c H locs 0 0 Q (F0 m (pc + 3) ls (.ref (sa 5) :: rest))) : W p l e R s m args below meth c H locs 0 0 Q (F0 m pc ls (.ref (sa 3) :: rest)) := vk_getf X.1 X.2.1 F.2.2.2.2.2.2.1.2.2.2.1 Y.2 X.2.2.2.1 (X.2.2.2.2 _ hl) (fun _ h => h) hdg kk
theorem gr_getK2 (X : gX p s m args c cc nL own) (F : gF Sh D cy ad sa A s) (Y : gY Sh D cy ad A σ s H locs) {idx : Nat} (hl : Cond.fieldLink own idx "java/lang/String" "coder" "B" ∈ gw) (hdg : decode cc pc = .ok (.getfield idx, 3))
    (kk : W p l e R s m args below meth c H locs 0 0 Q (F0 m (pc + 3) ls (.int 0 :: rest))) : W p l e R s m args below meth c H locs 0 0 Q (F0 m pc ls (.ref (sa 2) :: rest)) := vk_getf X.1 X.2.1 F.2.2.2.2.2.1.2.2.1 Y.2 X.2.2.2.1 (X.2.2.2.2 _ hl) (fun _ h => h) hdg kk
theorem gr_getK3 (X : gX p s m args c cc nL own) (F : gF Sh D cy ad sa A s) (Y : gY Sh D cy ad A σ s H locs) {idx : Nat} (hl : Cond.fieldLink own idx "java/lang/String" "coder" "B" ∈ gw) (hdg : decode cc pc = .ok (.getfield idx, 3))
    (kk : W p l e R s m args below meth c H locs 0 0 Q (F0 m (pc + 3) ls (.int 0 :: rest))) : W p l e R s m args below meth c H locs 0 0 Q (F0 m pc ls (.ref (sa 3) :: rest)) := vk_getf X.1 X.2.1 F.2.2.2.2.2.2.1.2.2.1 Y.2 X.2.2.2.1 (X.2.2.2.2 _ hl) (fun _ h => h) hdg kk
variable {y : MethodName} {b : ByteArray} {n d idx : Nat} {rt : Option FieldType} {as : List Value}
theorem gr_runW (X : gX p s m args c cc nL own) (F : gF Sh D cy ad sa A s) (Y : gY Sh D cy ad A σ s H locs) {Qc : Array Value → State → Outcome → State → Prop} {q : Nat} (hO : va_O "java/lang/String" q A s s.heap) (hM : Met l y (Cond.code y b n rt :: gw) (grm d) (va_Pc (.ref q :: as) (gP Sh D cy ad sa A σ)) Qc 0 0 A) (hl : gcw own idx y b n rt as.length) (hcl : y.cls = "java/lang/String") (hR : d + 1 ≤ R.frames ∧ 8 + (n + 11) + 40 * d ≤ R.locals) {st0 : List Value} (hst : st0 = as.reverse ++ .ref q :: rest) (hsz : ls.size = nL) (hrm : (rest.map fun v => v.category).sum ≤ 8) (hdg : decode cc pc = .ok (.invokevirtual idx, 3)) : va_Run p l e R s m args below meth c H locs 0 0 0 0 (F0 m pc ls st0) rest (Qc (Value.ref q :: as).toArray) A := by
  obtain ⟨⟨h1, h2, h8, h3, h4⟩, ⟨h5, h6, h7⟩⟩ := hl
  have hG : GoodIn gw (wsV own idx y.cls y (Cond.code y b n rt :: gw)) := gw_goodIn (fun w hw => by
    unfold wsV at hw
    simp only [List.mem_append, List.mem_cons, List.not_mem_nil, or_false] at hw
    rcases hw with (rfl | rfl | rfl | rfl) | rfl | hw
    · exact h1
    · exact h2
    · exact h8
    · exact h3
    · exact h4
    · exact hw)
  refine va_runV (nL := nL) (C := y.cls) ⟨X.1, X.2.1, X.2.2.1, X.2.2.2.1, X.2.2.2.2⟩ hM (cwV as.length X.2.2.2.2 hG rfl rfl rfl ⟨rfl, h5, h6, h7⟩ hR) ⟨gP.blind, ?_, fun U hU hW => ⟨rfl, gP.of F Y hU hW⟩⟩ rfl rfl hsz hst (lv_room hrm) hdg ⟨Nat.zero_le _, Nat.zero_le _⟩
  obtain ⟨cell, g1, g2, g3, -⟩ := hO.kept Y.2.2.1
  exact ⟨cell, g1, g2, by rw [hcl]; exact g3⟩
theorem gr_runW2 (X : gX p s m args c cc nL own) (F : gF Sh D cy ad sa A s) (Y : gY Sh D cy ad A σ s H locs) {Qc : Array Value → State → Outcome → State → Prop} (hM : Met l y (Cond.code y b n rt :: gw) (grm d) (va_Pc (.ref (sa 2) :: as) (gP Sh D cy ad sa A σ)) Qc 0 0 A) (hl : gcw own idx y b n rt as.length) (hR : d + 1 ≤ R.frames ∧ 8 + (n + 11) + 40 * d ≤ R.locals) {st0 : List Value} (hst : st0 = as.reverse ++ .ref (sa 2) :: rest) (hsz : ls.size = nL) (hrm : (rest.map fun v => v.category).sum ≤ 8) (hdg : decode cc pc = .ok (.invokevirtual idx, 3)) (hcl : y.cls = "java/lang/String" := by rfl) : va_Run p l e R s m args below meth c H locs 0 0 0 0 (F0 m pc ls st0) rest (Qc (Value.ref (sa 2) :: as).toArray) A :=
  gr_runW X F Y F.2.2.2.2.2.1.2.1 hM hl hcl hR hst hsz hrm hdg
theorem gr_runW3 (X : gX p s m args c cc nL own) (F : gF Sh D cy ad sa A s) (Y : gY Sh D cy ad A σ s H locs) {Qc : Array Value → State → Outcome → State → Prop} (hM : Met l y (Cond.code y b n rt :: gw) (grm d) (va_Pc (.ref (sa 3) :: as) (gP Sh D cy ad sa A σ)) Qc 0 0 A) (hl : gcw own idx y b n rt as.length) (hR : d + 1 ≤ R.frames ∧ 8 + (n + 11) + 40 * d ≤ R.locals) {st0 : List Value} (hst : st0 = as.reverse ++ .ref (sa 3) :: rest) (hsz : ls.size = nL) (hrm : (rest.map fun v => v.category).sum ≤ 8) (hdg : decode cc pc = .ok (.invokevirtual idx, 3)) (hcl : y.cls = "java/lang/String" := by rfl) : va_Run p l e R s m args below meth c H locs 0 0 0 0 (F0 m pc ls st0) rest (Qc (Value.ref (sa 3) :: as).toArray) A :=
  gr_runW X F Y F.2.2.2.2.2.2.1.2.1 hM hl hcl hR hst hsz hrm hdg
end GR2
def gMabs (x : Int32) : Int32 := if 0 ≤ x then x else 0 - x
def gMmax (x y : Int32) : Int32 := if x < y then y else x
def gMmin (x y : Int32) : Int32 := if y < x then y else x
def gMmaxL (x y : Int64) : Int64 := if y < x then x else y
section GR3
variable {p : Program} {l : Launch} {e : Env} {R : Room} {s : State} {m : MethodId} {args : Array Value} {below : List Frame} {meth : Method} {c : Code} {H : Heap} {locs : List Loc} {Q : State → Prop}
variable {cc : ByteArray} {nL pc : Nat} {ls : Array Slot} {rest : List Value} {own : String}
theorem gr_mabs (X : gX p s m args c cc nL own) {idx : Nat} {x : Int32} (hml : ls.size = nL) (h1 : Cond.methodLink own idx Lib.Math.abs.name ∈ gw) (h2 : Cond.static Lib.Math.abs.name ∈ gw) (h3 : Cond.initialized "java/lang/Math" ∈ gw) (h4 : Cond.code Lib.Math.abs.name Lib.Math.abs.code 1 (some .int) ∈ gw) (hR : 1 ≤ R.frames ∧ (rest.map fun v => v.category).sum + 13 ≤ R.locals) (hdg : decode cc pc = .ok (.invokestatic idx, 3))
    (kk : W p l e R s m args below meth c H locs 0 0 Q (F0 m (pc + 3) ls (.int (gMabs x) :: rest))) : W p l e R s m args below meth c H locs 0 0 Q (F0 m pc ls (.int x :: rest)) :=
  va_mabs X.1 X.2.1 (X.2.2.1.trans hml.symm) X.2.2.2.1 (X.2.2.2.2 _ h1) (X.2.2.2.2 _ h2) (X.2.2.2.2 _ h3) (X.2.2.2.2 _ h4) hR.1 hR.2 (Nat.zero_le _) (Nat.zero_le _) hdg kk
theorem gr_mmax (X : gX p s m args c cc nL own) {idx : Nat} {x y : Int32} (hml : ls.size = nL) (h1 : Cond.methodLink own idx Lib.Math.max.name ∈ gw) (h2 : Cond.static Lib.Math.max.name ∈ gw) (h3 : Cond.initialized "java/lang/Math" ∈ gw) (h4 : Cond.code Lib.Math.max.name Lib.Math.max.code 2 (some .int) ∈ gw) (hR : 1 ≤ R.frames ∧ (rest.map fun v => v.category).sum + 13 ≤ R.locals) (hdg : decode cc pc = .ok (.invokestatic idx, 3))
    (kk : W p l e R s m args below meth c H locs 0 0 Q (F0 m (pc + 3) ls (.int (gMmax x y) :: rest))) : W p l e R s m args below meth c H locs 0 0 Q (F0 m pc ls (.int y :: .int x :: rest)) :=
  va_mmax X.1 X.2.1 (X.2.2.1.trans hml.symm) X.2.2.2.1 (X.2.2.2.2 _ h1) (X.2.2.2.2 _ h2) (X.2.2.2.2 _ h3) (X.2.2.2.2 _ h4) hR.1 hR.2 (Nat.zero_le _) (Nat.zero_le _) hdg kk
theorem gr_mmin (X : gX p s m args c cc nL own) {idx : Nat} {x y : Int32} (hml : ls.size = nL) (h1 : Cond.methodLink own idx Lib.Math.min.name ∈ gw) (h2 : Cond.static Lib.Math.min.name ∈ gw) (h3 : Cond.initialized "java/lang/Math" ∈ gw) (h4 : Cond.code Lib.Math.min.name Lib.Math.min.code 2 (some .int) ∈ gw) (hR : 1 ≤ R.frames ∧ (rest.map fun v => v.category).sum + 13 ≤ R.locals) (hdg : decode cc pc = .ok (.invokestatic idx, 3))
    (kk : W p l e R s m args below meth c H locs 0 0 Q (F0 m (pc + 3) ls (.int (gMmin x y) :: rest))) : W p l e R s m args below meth c H locs 0 0 Q (F0 m pc ls (.int y :: .int x :: rest)) :=
  va_mmin X.1 X.2.1 (X.2.2.1.trans hml.symm) X.2.2.2.1 (X.2.2.2.2 _ h1) (X.2.2.2.2 _ h2) (X.2.2.2.2 _ h3) (X.2.2.2.2 _ h4) hR.1 hR.2 (Nat.zero_le _) (Nat.zero_le _) hdg kk
theorem gr_mmaxL (X : gX p s m args c cc nL own) {idx : Nat} {x y : Int64} (hml : ls.size = nL) (h1 : Cond.methodLink own idx Lib.MathLoose.max_long.x ∈ gw) (h2 : Cond.static Lib.MathLoose.max_long.x ∈ gw) (h3 : Cond.initialized "java/lang/Math" ∈ gw) (h4 : Cond.code Lib.MathLoose.max_long.x Lib.MathLoose.max_long.code 4 (some .long) ∈ gw) (hR : 1 ≤ R.frames ∧ (rest.map fun v => v.category).sum + 15 ≤ R.locals) (hdg : decode cc pc = .ok (.invokestatic idx, 3))
    (kk : W p l e R s m args below meth c H locs 0 0 Q (F0 m (pc + 3) ls (.long (gMmaxL x y) :: rest))) : W p l e R s m args below meth c H locs 0 0 Q (F0 m pc ls (.long y :: .long x :: rest)) :=
  va_mmax_long X.1 X.2.1 (X.2.2.1.trans hml.symm) X.2.2.2.1 (X.2.2.2.2 _ h1) (X.2.2.2.2 _ h2) (X.2.2.2.2 _ h3) (X.2.2.2.2 _ h4) hR.1 hR.2 (Nat.zero_le _) (Nat.zero_le _) hdg kk
end GR3
