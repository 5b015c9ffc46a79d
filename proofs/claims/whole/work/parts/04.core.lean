/-! THE ABSTRACT MACHINE: values, heaps, cells -/
abbrev AV : Type := Int32 ⊕ (Int64 ⊕ Ad)
abbrev vI (x : Int32) : AV := Sum.inl x
abbrev vL (x : Int64) : AV := Sum.inr (Sum.inl x)
abbrev vR (k i : Nat) : AV := Sum.inr (Sum.inr (k, i))
/-- ints (fields and elements) by kind, instance, place; longs by kind, place; instances by slot -/
abbrev Hp : Type := (Nat → Nat → Nat → Int32) × (Nat → Nat → Int64) × (Nat → Nat)
def trV (tr : Ad → Nat) : AV → Value
  | .inl x => .int x
  | .inr (.inl x) => .long x
  | .inr (.inr a) => .ref (tr a)
def fval (h : Hp) (a : Ad) (k : Nat) (fd : Fdk) : AV := match fd.1 with
  | 0 => vI (h.1 a.1 a.2 k)
  | 1 => vI (h.1 a.1 a.2 k)
  | 2 => vR fd.2.1 (match fd.2.2.1 with
    | 0 => fd.2.2.2
    | _ => a.2)
  | _ => vR fd.2.2.1 (h.2.2 fd.2.1)
/-- what the machine's cell holds there -/
def rfv (tr : Ad → Nat) (h : Hp) (a : Ad) (k : Nat) (fd : Fdk) : Value := match fd.1 with
  | 4 => if h.2.2 fd.2.1 = 7 then .null else trV tr (fval h a k fd)
  | _ => trV tr (fval h a k fd)
abbrev Aq : Type := Nat × Nat × Nat × Nat × Nat × Nat
def aln (q : Aq) (i : Nat) : Nat := match q.2.2.1 with
  | 0 => q.2.1
  | n => (match i with
    | 0 => q.2.1
    | _ => n)
def ein (q : Aq) (i idx : Nat) : Nat := match q.2.2.2.2.1 with
  | 0 => q.2.2.2.2.2 + idx
  | _ => 5 * i + idx
def acon (tr : Ad → Nat) (h : Hp) (a : Ad) (q : Aq) : (Nat → Int32) ⊕ (Nat → Int64) ⊕ (Nat → UInt32) ⊕ (Nat → UInt64) ⊕ (Nat → Option Nat) := match q.1 with
  | 0 => .inl (h.1 a.1 a.2)
  | 1 => .inr (.inl (h.2.1 a.1))
  | 2 => .inl (h.1 a.1 a.2)
  | 3 => .inl (h.1 a.1 a.2)
  | _ => .inr (.inr (.inr (.inr (fun i => some (tr (q.2.2.2.1, ein q a.2 i))))))
def cellOf (cA : Nat → ClassId) (tr : Ad → Nat) (h : Hp) (a : Ad) : va_E := match shp a.1 with
  | .inl fds => .inr (a.1, fds.mapIdx (fun k fd => rfv tr h a k fd))
  | .inr q => .inl (cA q.1, aln q a.2, acon tr h a q)
theorem cell_obj {cA : Nat → ClassId} {tr : Ad → Nat} {h : Hp} {a : Ad} {fds : List Fdk} (e : shp a.1 = .inl fds) : cellOf cA tr h a = .inr (a.1, fds.mapIdx (fun k fd => rfv tr h a k fd)) := by
  unfold cellOf; rw [e]
theorem cell_arr {cA : Nat → ClassId} {tr : Ad → Nat} {h : Hp} {a : Ad} {q : Aq} (e : shp a.1 = .inr q) : cellOf cA tr h a = .inl (cA q.1, aln q a.2, acon tr h a q) := by
  unfold cellOf; rw [e]
def wof (cA : Nat → ClassId) (tr : Ad → Nat) (h : Hp) (al : List Ad) : va_W := al.map (fun a => (tr a, cellOf cA tr h a))
/-- which real addresses a world has -/
def Aw (al : List Ad) (tr : Ad → Nat) : Nat → Prop := fun q => ∃ a, a ∈ al ∧ q = tr a
def Inj (al : List Ad) (tr : Ad → Nat) : Prop := ∀ a, a ∈ al → ∀ b, b ∈ al → tr a = tr b → a = b
theorem wof_at {cA : Nat → ClassId} {tr : Ad → Nat} {h : Hp} {al : List Ad} {i : Nat} {a : Ad} (e : al[i]? = some a) : (wof cA tr h al)[i]? = some (tr a, cellOf cA tr h a) := by
  unfold wof; rw [List.getElem?_map, e]; rfl
theorem wof_in {cA : Nat → ClassId} {tr : Ad → Nat} {h : Hp} {al : List Ad} {a : Ad} (e : a ∈ al) : ∃ i : Nat, al[i]? = some a ∧ (wof cA tr h al)[i]? = some (tr a, cellOf cA tr h a) := by
  obtain ⟨i, hi⟩ := List.getElem?_of_mem e
  exact ⟨i, hi, wof_at hi⟩
theorem wof_D {cA : Nat → ClassId} {tr : Ad → Nat} {h : Hp} {al : List Ad} (hn : al.Nodup) (hi : Inj al tr) : va_D (Aw al tr) (wof cA tr h al) := by
  have key : ∀ (i : Nat) (p : Nat × va_E), (wof cA tr h al)[i]? = some p → ∃ a, al[i]? = some a ∧ p.1 = tr a := by
    intro i p hp
    unfold wof at hp
    rw [List.getElem?_map] at hp
    cases ha : al[i]? with
    | none => rw [ha] at hp; cases hp
    | some a => rw [ha] at hp; cases hp; exact ⟨a, rfl, rfl⟩
  refine ⟨fun i j p q hp hq hpq => ?_, fun k q hq => ?_⟩
  · obtain ⟨a, h1, h2⟩ := key i p hp
    obtain ⟨b, h3, h4⟩ := key j q hq
    have hab : a = b := hi a (List.mem_of_getElem? h1) b (List.mem_of_getElem? h3) (by rw [← h2, ← h4, hpq])
    subst hab
    exact (List.getElem?_inj (List.getElem?_eq_some_iff.mp h1).1 hn).mp (h1.trans h3.symm)
  · obtain ⟨a, h1, h2⟩ := key k q hq
    exact ⟨a, List.mem_of_getElem? h1, h2⟩
theorem wof_setM {cA : Nat → ClassId} {tr : Ad → Nat} {h h' : Hp} {al : List Ad} {i : Nat} {a : Ad} {e : va_E} (hn : al.Nodup) (hi : al[i]? = some a) (h1 : cellOf cA tr h' a = e) (h2 : ∀ b, b ∈ al → b ≠ a → cellOf cA tr h' b = cellOf cA tr h b) : (wof cA tr h al).set i (tr a, e) = wof cA tr h' al := by
  have hl := (List.getElem?_eq_some_iff.mp hi).1
  apply List.ext_getElem?
  intro j
  by_cases hj : j = i
  · subst hj
    rw [List.getElem?_set_self (by unfold wof; rw [List.length_map]; exact hl), wof_at hi, h1]
  · rw [List.getElem?_set_ne (Ne.symm hj)]
    unfold wof
    rw [List.getElem?_map, List.getElem?_map]
    cases hb : al[j]? with
    | none => rfl
    | some b =>
      have : b ≠ a := by
        intro q
        subst q
        exact hj ((List.getElem?_inj (List.getElem?_eq_some_iff.mp hb).1 hn).mp (hb.trans hi.symm))
      simp only [Option.map_some, h2 b (List.mem_of_getElem? hb) this]
theorem wof_set {cA : Nat → ClassId} {tr : Ad → Nat} {h h' : Hp} {al : List Ad} {i : Nat} {a : Ad} {e : va_E} (hn : al.Nodup) (hi : al[i]? = some a) (h1 : cellOf cA tr h' a = e) (h2 : ∀ b, b ≠ a → cellOf cA tr h' b = cellOf cA tr h b) : (wof cA tr h al).set i (tr a, e) = wof cA tr h' al := wof_setM hn hi h1 (fun b _ hb => h2 b hb)
/-! writes -/
/-- ints of one cell, all at once -/
def sV (h : Hp) (k i : Nat) (f : Nat → Int32) : Hp := (fun k' i' => if k' = k ∧ i' = i then f else h.1 k' i', h.2.1, h.2.2)
def sX (h : Hp) (k i j : Nat) (x : Int32) : Hp := sV h k i (upd (h.1 k i) j x)
def sL (h : Hp) (k j : Nat) (x : Int64) : Hp := (h.1, fun k' => if k' = k then vp_updL (h.2.1 k) j x else h.2.1 k', h.2.2)
def sD (h : Hp) (x i : Nat) : Hp := (h.1, h.2.1, fun x' => if x' = x then i else h.2.2 x')
theorem sV_same {h : Hp} {k i : Nat} {f : Nat → Int32} : (sV h k i f).1 k i = f := if_pos ⟨rfl, rfl⟩
theorem sV_ne {h : Hp} {k i : Nat} {f : Nat → Int32} {a : Ad} (hn : a ≠ (k, i)) : (sV h k i f).1 a.1 a.2 = h.1 a.1 a.2 := if_neg (fun q => hn (by cases a; obtain ⟨rfl, rfl⟩ := q; rfl))
theorem sV_2 {h : Hp} {k i : Nat} {f : Nat → Int32} : (sV h k i f).2 = h.2 := rfl
theorem rfv_cong {tr : Ad → Nat} {h h' : Hp} {a : Ad} {k : Nat} {fd : Fdk} (h1 : h'.1 a.1 a.2 k = h.1 a.1 a.2 k) (h2 : h'.2.2 = h.2.2) : rfv tr h' a k fd = rfv tr h a k fd := by
  unfold rfv fval
  rw [h1, h2]
theorem cell_sV {cA : Nat → ClassId} {tr : Ad → Nat} {h : Hp} {k i : Nat} {f : Nat → Int32} (b : Ad) (hb : b ≠ (k, i)) : cellOf cA tr (sV h k i f) b = cellOf cA tr h b := by
  cases e : shp b.1 with
  | inl fds =>
    rw [cell_obj e, cell_obj e]
    congr 2
    apply List.ext_getElem?
    intro j
    rw [List.getElem?_mapIdx, List.getElem?_mapIdx]
    cases fds[j]? with
    | none => rfl
    | some fd => exact congrArg some (rfv_cong (by rw [sV_ne hb]) rfl)
  | inr q =>
    rw [cell_arr e, cell_arr e]
    congr 2
    unfold acon
    rw [sV_ne hb]
    rfl
/-! which refs are good -/
def wfV (al : List Ad) (v : AV) : Prop := ∀ a, v = .inr (.inr a) → a ∈ al ∨ (90 ≤ a.1 ∧ a.2 < 3)
def stok (al : List Ad) (st : List AV) : Prop := ∀ v, v ∈ st → wfV al v
theorem wfI {al : List Ad} {x : Int32} : wfV al (vI x) := fun _ h => by cases h
theorem wfL {al : List Ad} {x : Int64} : wfV al (vL x) := fun _ h => by cases h
theorem st1 {al : List Ad} {v : AV} {st : List AV} (h : stok al (v :: st)) : stok al st := fun w hw => h w (List.mem_cons_of_mem _ hw)
theorem st0 {al : List Ad} {v : AV} {st : List AV} (h : stok al (v :: st)) : wfV al v := h v List.mem_cons_self
theorem st2 {al : List Ad} {v w : AV} {st : List AV} (h : stok al (v :: w :: st)) : stok al st := st1 (st1 h)
theorem st3 {al : List Ad} {v w u : AV} {st : List AV} (h : stok al (v :: w :: u :: st)) : stok al st := st1 (st1 (st1 h))
theorem sc {al : List Ad} {v : AV} {st : List AV} (h : wfV al v) (hs : stok al st) : stok al (v :: st) := fun w hw => (List.mem_cons.mp hw).elim (fun e => e ▸ h) (hs w)
def clo (al : List Ad) (a : Ad) : Prop := (∀ fds, shp a.1 = .inl fds → ∀ fd, fd ∈ fds → fd.1 = 2 → wfV al (fval (fun _ _ _ => 0, fun _ _ => 0, fun _ => 0) a 0 fd)) ∧ ∀ q, shp a.1 = .inr q → 4 ≤ q.1 → ∀ i, i < aln q a.2 → (q.2.2.2.1, ein q a.2 i) ∈ al
/-- whose field a slot is -/
def slo : Nat → Nat × Nat
  | 0 => (0, 2)
  | 1 => (0, 3)
  | 2 => (12, 11)
  | 3 => (12, 17)
  | _ => (12, 18)
def dyO (a : Ad) : Prop := (a.1 = 43 → a.2 ≠ 7) ∧ (∀ q, shp a.1 = .inr q → q.1 = 1 → a.2 = 0) ∧ ∀ fds, shp a.1 = .inl fds → ∀ (j : Nat) (fd : Fdk), fds[j]? = some fd → 3 ≤ fd.1 → a.2 = 0 ∧ slo fd.2.1 = (a.1, j)
def Okal (al : List Ad) : Prop := al.Nodup ∧ (∀ a, a ∈ al → a.1 < 90 ∧ dyO a) ∧ ∀ a, a ∈ al → clo al a
def hwf (al : List Ad) (h : Hp) : Prop := ∀ a, a ∈ al → ∀ fds, shp a.1 = .inl fds → ∀ fd, fd ∈ fds → (fd.1 = 3 → (fd.2.2.1, h.2.2 fd.2.1) ∈ al) ∧ (fd.1 = 4 → h.2.2 fd.2.1 = 7 ∨ (fd.2.2.1, h.2.2 fd.2.1) ∈ al)
theorem hwf_sV {al : List Ad} {h : Hp} {k i : Nat} {f : Nat → Int32} (w : hwf al h) : hwf al (sV h k i f) := w
theorem hwf_sL {al : List Ad} {h : Hp} {k j : Nat} {x : Int64} (w : hwf al h) : hwf al (sL h k j x) := w
/-! THE CONTEXT of a method's walk -/
abbrev MT : Type := MethodName × ByteArray × Nat × Option FieldType
def gt : List Cond := lw_tbl.filter goodWord
theorem gt_good {w : Cond} (h : w ∈ gt) : (w.onTables && w.keeps) = true ∨ ∃ ty, w = .arrayClass ty := good_of_word (List.mem_filter.mp h).2
def wsM (M : MT) : List Cond := .code M.1 M.2.1 M.2.2.1 M.2.2.2 :: gt
def rmk (k : Nat) : Room := { frames := k, cells := 0, slots := 0, locals := 60 * k }
def tysL (cA : Nat → ClassId) : List (ClassId × FieldType) := [(cA 0, .int), (cA 1, .long), (cA 2, .byte), (cA 3, .boolean), (cA 4, .object "ByTheThumbs$State"), (cA 5, .array .int)]
/-! the three String constants -/
def lenS : List Nat := [5, 5, 20]
def bytS : List (List Int32) := [[97, 43, 43, 111, 110], [112, 44, 110, 44, 100], [115, 42, 49, 48, 45, 104, 42, 54, 43, 119, 42, 50, 43, 40, 97, 62, 101, 41, 42, 51]]
/-- kind 90: the Strings, 91: their bytes, 92: what the JDK's check of an index holds -/
def SX (al : List Ad) (tr : Ad → Nat) (U : State) : Prop := vk_S 3 lenS bytS (fun i => tr (90, i)) (fun i => tr (91, i)) (Aw al tr) U U.heap ∧ vk_R RX11 25 "a++on" (tr (90, 0)) U ∧ vk_R RX1 11 "p,n,d" (tr (90, 1)) U ∧ vk_R RX6 24 "s*10-h*6+w*2+(a>e)*3" (tr (90, 2)) U ∧ va_Z "java/lang/String" "COMPACT_STRINGS" "Z" (.int 1) (Aw al tr) U U.heap ∧ va_Zq "jdk/internal/util/Preconditions" "SIOOBE_FORMATTER" "Ljava/util/function/BiFunction;" (Aw al tr) U U.heap
theorem SX.go {al : List Ad} {tr : Ad → Nat} {s U : State} {H : Heap} {locs : List Loc} (h : SX al tr s) (hS : va_S (Aw al tr) s.heap H locs) (hU : U.heap = H) (hW : s.WarmedH U.vm) : SX al tr U := by
  obtain ⟨h1, h2, h3, h4, h5, h6⟩ := h
  subst hU
  exact ⟨vk_S.moved hW.alike (h1.kept hS.2.1), h2.warm hW, h3.warm hW, h4.warm hW, va_Z.moved hW.alike (h5.kept hS.2.1), va_Zq.moved hW.alike (h6.kept hS.2.1)⟩
theorem SX.call {al : List Ad} {tr : Ad → Nat} {U : State} {g : JFrame} {mk : MethodId} {a : Array Value} (h : SX al tr U) : SX al tr (U.calling g mk a) := by
  obtain ⟨h1, h2, h3, h4, h5, h6⟩ := h
  exact ⟨vk_S.moved (u := U) (U := U.calling g mk a) (Vm.Alike.refl U.vm) h1, h2.same rfl, h3.same rfl, h4.same rfl, va_Z.moved (u := U) (U := U.calling g mk a) (Vm.Alike.refl U.vm) h5, va_Zq.moved (u := U) (U := U.calling g mk a) (Vm.Alike.refl U.vm) h6⟩
def PCx (al : List Ad) (D : va_G) (cA : Nat → ClassId) (tr : Ad → Nat) (h : Hp) (As : List AV) : Array Value → State → Prop := va_Pc (As.map (trV tr)) (fun U => va_P D vwCl (wof cA tr h al) U.heap ∧ va_K D vwCl (tysL cA) U ∧ SX al tr U)
def QCx (al : List Ad) (D : va_G) (cA : Nat → ClassId) (tr : Ad → Nat) (ret : Option FieldType) (P : AV → Hp → Prop) : Array Value → State → Outcome → State → Prop := fun _ st oc t => (∃ (v : AV) (h' : Hp), P v h' ∧ oc = .returned (ret.map fun _ => trV tr v) ∧ va_P D vwCl (wof cA tr h' al) t.heap ∧ hwf al h' ∧ wfV al v) ∧ va_F (Aw al tr) st t
/-- M's contract: from the heap h, with the arguments As, it returns, and P -/
def Ct (al : List Ad) (M : MT) (k : Nat) (As : List AV) (h : Hp) (P : AV → Hp → Prop) : Prop :=
  ∀ (l : Launch) (D : va_G) (cA : Nat → ClassId) (tr : Ad → Nat), Inj al tr → hwf al h → stok al As → Met l M.1 (wsM M) (rmk k) (PCx al D cA tr h As) (QCx al D cA tr M.2.2.2 P) 0 0 (Aw al tr)
def BX (al : List Ad) (M : MT) (p : Program) (s : State) (m : MethodId) (args : Array Value) (meth : Method) (c : Code) (D : va_G) (cA : Nat → ClassId) (tr : Ad → Nat) : Prop :=
  p.tables.exec = Jvm.exec ∧ c.code = M.2.1 ∧ c.maxLocals = M.2.2.1 ∧ meth.sig.returnType = M.2.2.2 ∧ meth.locks = false ∧ s.vm.findClass M.1.cls = some m.cls ∧ (∀ w ∈ gt, w.before args s = true) ∧ va_K D vwCl (tysL cA) s ∧ SX al tr s ∧ Inj al tr
/-- the locals: what is known of them -/
def lvok (al : List Ad) (tr : Ad → Nat) (n : Nat) (ls : Array Slot) (lv : List (Option AV)) : Prop := ls.size = n ∧ lv_wf ls ∧ ∀ (i : Nat) (v : AV), lv[i]? = some (some v) → ls[i]? = some (.val (trV tr v)) ∧ wfV al v
def WP (al : List Ad) (M : MT) (k : Nat) (P : AV → Hp → Prop) (pc : Nat) (lv : List (Option AV)) (st : List AV) (h : Hp) : Prop :=
  ∀ (p : Program) (l : Launch) (e : Env) (s : State) (m : MethodId) (args : Array Value) (below : List Frame) (meth : Method) (c : Code) (D : va_G) (cA : Nat → ClassId) (tr : Ad → Nat), BX al M p s m args meth c D cA tr →
    ∀ (H : Heap) (locs : List Loc) (ls : Array Slot), va_P D vwCl (wof cA tr h al) H → va_S (Aw al tr) s.heap H locs → hwf al h → lvok al tr M.2.2.1 ls lv → stok al st →
    W p l e (rmk k) s m args below meth c H locs 0 0 (MQ below (QCx al D cA tr M.2.2.2 P) args s 0 0 (Aw al tr)) (F0 m pc ls (st.map (trV tr)))
