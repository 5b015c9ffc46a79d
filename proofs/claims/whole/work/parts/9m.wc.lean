/-! CONSTRUCTORS: a walk that makes cells; the world is a list of cells -/
def nestL : List Cond := [.methodLinkNest RX11 9 yX9_init RX11, .methodLinkNest RX11 18 yX5_init RX11, .methodLinkNest RX11 36 yX1_init RX11, .methodLinkNest RX11 52 yX8_init RX11, .methodLinkNest RX11 81 yX10_init RX11, .methodLinkNest RX11 88 yX2_init RX11, .methodLinkNest RX0 11 yX6_init RX11, .methodLinkNest RX4 18 yX8_init RX11, .methodLinkNest RX7 34 yX8_init RX11]
def NI (ts : Nat → Nat → Nat) (U : State) : Prop := (∀ w ∈ nestL, va_Nw w U) ∧ va_AO RX8 U ∧ va_AOA .int U ∧ vk_R RX11 25 "a++on" (ts 90 0) U ∧ vk_R RX1 11 "p,n,d" (ts 90 1) U
theorem nestL_on : ∀ w ∈ nestL, w.onTables = true := by
  intro w hw
  simp only [nestL, List.mem_cons, List.not_mem_nil, or_false] at hw
  rcases hw with rfl | rfl | rfl | rfl | rfl | rfl | rfl | rfl | rfl <;> rfl
theorem NI.warm {ts : Nat → Nat → Nat} {s U : State} (h : NI ts s) (hW : s.WarmedH U.vm) : NI ts U := by
  refine ⟨fun w hw => ?_, va_AO.moved hW.alike h.2.1, va_AOA.moved hW.alike h.2.2.1, h.2.2.2.1.warm hW, h.2.2.2.2.warm hW⟩
  have h0 := h.1 w hw
  simp only [nestL, List.mem_cons, List.not_mem_nil, or_false] at hw
  rcases hw with rfl | rfl | rfl | rfl | rfl | rfl | rfl | rfl | rfl <;> exact va_Nw.warmM hW h0
theorem NI.same {ts : Nat → Nat → Nat} {u U : State} (h : NI ts u) (e : u.vm = U.vm) : NI ts U := ⟨fun w hw => va_Nw.same (nestL_on w hw) e (h.1 w hw), va_AO.moved (by rw [e]; exact Vm.Alike.refl _) h.2.1, va_AOA.moved (by rw [e]; exact Vm.Alike.refl _) h.2.2.1, h.2.2.2.1.same e.symm, h.2.2.2.2.same e.symm⟩
/-- the context of a constructor's walk -/
def KC (ts : Nat → Nat → Nat) (M : MT) (p : Program) (s : State) (m : MethodId) (args : Array Value) (meth : Method) (c : Code) (D : va_G) (cA : Nat → ClassId) (A : Nat → Prop) : Prop :=
  p.tables.exec = Jvm.exec ∧ c.code = M.2.1 ∧ c.maxLocals = M.2.2.1 ∧ s.vm.findClass M.1.cls = some m.cls ∧ (∀ w ∈ gt, w.before args s = true) ∧ va_K D vwCl (tysL cA) s ∧ NI ts s ∧ (meth.name = "<init>") ∧ ∀ q, s.heap.size ≤ q → A q
def WC (M : MT) (p : Program) (l : Launch) (e : Env) (R : Room) (s : State) (m : MethodId) (args : Array Value) (below : List Frame) (meth : Method) (c : Code) (D : va_G) (A : Nat → Prop) (Q : State → Prop) (pc : Nat) (lv : List (Nat × Value)) (st : List Value) (ws : va_W) (cells slots : Nat) : Prop :=
  ∀ (H : Heap) (locs : List Loc) (ls : Array Slot), va_P D vwCl ws H → va_D A ws → va_S A s.heap H locs → lv_has ls M.2.2.1 lv → W p l e R s m args below meth c H locs cells slots Q (F0 m pc ls st)
def CtQ (D : va_G) (a sz ci : Nat) (fs : List Value) (Wu : (Nat → Nat) → va_W) : State → Outcome → State → Prop := fun st oc t => (∃ u : Nat → Nat, oc = .returned none ∧ va_P D vwCl (Wu u) t.heap ∧ va_D (va_A [(a, .inr (ci, fs))] sz) (Wu u)) ∧ va_F (va_A [(a, .inr (ci, fs))] sz) st t
/-- a constructor's contract: of the object at a, with the arguments As; the cells behind it, by what addresses u came new -/
def CN (ts : Nat → Nat → Nat) (M : MT) (k mc ms : Nat) (As : List Value) (ci : Nat) (fs : List Value) (Wn : (Nat → ClassId) → Nat → (Nat → Nat) → va_W) : Prop :=
  ∀ (l : Launch) (D : va_G) (cA : Nat → ClassId) (a sz : Nat), Met l M.1 (wsM M) { frames := k, cells := mc, slots := ms, locals := 60 * k }
    (va_Pc (.ref a :: As) (fun U => U.heap.size = sz ∧ va_P D vwCl [(a, .inr (ci, fs))] U.heap ∧ va_K D vwCl (tysL cA) U ∧ NI ts U))
    (fun _ => CtQ D a sz ci fs (Wn cA a)) mc ms (va_A [(a, .inr (ci, fs))] sz)
section RULES
variable {ts : Nat → Nat → Nat} {M : MT} {p : Program} {l : Launch} {e : Env} {R : Room} {s : State} {m : MethodId} {args : Array Value} {below : List Frame} {meth : Method} {c : Code} {D : va_G} {cA : Nat → ClassId} {A : Nat → Prop} {Q : State → Prop} {pc : Nat} {lv : List (Nat × Value)} {st : List Value} {ws : va_W} {cells slots : Nat}
theorem wc_aload (K : KC ts M p s m args meth c D cA A) (i : Fin 4) (k : Nat) {a : Nat} (hd : decode M.2.1 pc = .ok (.aload_n i, 1)) (hx : lv[k]? = some ((i : Nat), .ref a)) (kk : WC M p l e R s m args below meth c D A Q (pc + 1) lv (.ref a :: st) ws cells slots) : WC M p l e R s m args below meth c D A Q pc lv st ws cells slots :=
  fun H locs ls hP hD hS hl => lv_aload_n K.1 K.2.1 hd rfl (lv_at hl k hx) (kk H locs ls hP hD hS hl)
theorem wc_iload (K : KC ts M p s m args meth c D cA A) (i : Fin 4) (k : Nat) {x : Int32} (hd : decode M.2.1 pc = .ok (.iload_n i, 1)) (hx : lv[k]? = some ((i : Nat), .int x)) (kk : WC M p l e R s m args below meth c D A Q (pc + 1) lv (.int x :: st) ws cells slots) : WC M p l e R s m args below meth c D A Q pc lv st ws cells slots :=
  fun H locs ls hP hD hS hl => lv_iload_n K.1 K.2.1 hd rfl (lv_at hl k hx) (kk H locs ls hP hD hS hl)
theorem wc_iconst (K : KC ts M p s m args meth c D cA A) (n : Int) (v : Int32) (hd : decode M.2.1 pc = .ok (.iconst n, 1)) (hv : Int32.ofInt n = v) (kk : WC M p l e R s m args below meth c D A Q (pc + 1) lv (.int v :: st) ws cells slots) : WC M p l e R s m args below meth c D A Q pc lv st ws cells slots :=
  fun H locs ls hP hD hS hl => lv_iconst K.1 K.2.1 hd hv (kk H locs ls hP hD hS hl)
theorem wc_bipush (K : KC ts M p s m args meth c D cA A) (n : Int) (v : Int32) (hd : decode M.2.1 pc = .ok (.bipush n, 2)) (hv : (Int8.ofInt n).toInt32 = v) (kk : WC M p l e R s m args below meth c D A Q (pc + 2) lv (.int v :: st) ws cells slots) : WC M p l e R s m args below meth c D A Q pc lv st ws cells slots :=
  fun H locs ls hP hD hS hl => lv_bipush K.1 K.2.1 hd hv (kk H locs ls hP hD hS hl)
theorem wc_sipush (K : KC ts M p s m args meth c D cA A) (n : Int) (v : Int32) (hd : decode M.2.1 pc = .ok (.sipush n, 3)) (hv : (Int16.ofInt n).toInt32 = v) (kk : WC M p l e R s m args below meth c D A Q (pc + 3) lv (.int v :: st) ws cells slots) : WC M p l e R s m args below meth c D A Q pc lv st ws cells slots :=
  fun H locs ls hP hD hS hl => lv_sipush K.1 K.2.1 hd hv (kk H locs ls hP hD hS hl)
theorem wc_dup (K : KC ts M p s m args meth c D cA A) {a : Nat} (hd : decode M.2.1 pc = .ok (.dup, 1)) (kk : WC M p l e R s m args below meth c D A Q (pc + 1) lv (.ref a :: .ref a :: st) ws cells slots) : WC M p l e R s m args below meth c D A Q pc lv (.ref a :: st) ws cells slots :=
  fun H locs ls hP hD hS hl => lv_dup K.1 K.2.1 hd rfl (kk H locs ls hP hD hS hl)
theorem wc_istore (K : KC ts M p s m args meth c D cA A) (i : Fin 4) (lv' : List (Nat × Value)) {x : Int32} (hd : decode M.2.1 pc = .ok (.istore_n i, 1)) (hn : (i : Nat) < M.2.2.1) (hl' : ((i : Nat), Value.int x) :: lv.filter (fun q => !(q.1 == (i : Nat)) && !(q.1 + 1 == (i : Nat) && q.2.category == 2)) = lv') (kk : WC M p l e R s m args below meth c D A Q (pc + 1) lv' st ws cells slots) : WC M p l e R s m args below meth c D A Q pc lv (.int x :: st) ws cells slots :=
  fun H locs ls hP hD hS hl => lv_istore_n K.1 K.2.1 hd rfl hl hn hl' (fun ls' hl2 => kk H locs ls' hP hD hS hl2)
theorem wc_iinc (K : KC ts M p s m args meth c D cA A) (i k : Nat) (lv' : List (Nat × Value)) {x v : Int32} (hd : decode M.2.1 pc = .ok (.iinc i 1, 3)) (hk : lv[k]? = some (i, .int x)) (hv : x + Int32.ofInt 1 = v) (hn : i < M.2.2.1) (hl' : (i, Value.int v) :: lv.filter (fun q => !(q.1 == i) && !(q.1 + 1 == i && q.2.category == 2)) = lv') (kk : WC M p l e R s m args below meth c D A Q (pc + 3) lv' st ws cells slots) : WC M p l e R s m args below meth c D A Q pc lv st ws cells slots :=
  fun H locs ls hP hD hS hl => lv_iinc K.1 K.2.1 hd hl hk hv hn hl' (fun ls' hl2 => kk H locs ls' hP hD hS hl2)
theorem wc_goto (K : KC ts M p s m args meth c D cA A) (off : Int) (t : Nat) (hd : decode M.2.1 pc = .ok (.goto off, 3)) (ht : (pc : Int) + off = (t : Int)) (kk : WC M p l e R s m args below meth c D A Q t lv st ws cells slots) : WC M p l e R s m args below meth c D A Q pc lv st ws cells slots :=
  fun H locs ls hP hD hS hl => lv_goto K.1 K.2.1 hd ht (kk H locs ls hP hD hS hl)
theorem wc_geN (K : KC ts M p s m args meth c D cA A) (off : Int) (t : Nat) {x y : Int32} (hd : decode M.2.1 pc = .ok (.if_icmp .ge off, 3)) (ht : (pc : Int) + off = (t : Int)) (hn : ¬ y ≤ x) (kk : WC M p l e R s m args below meth c D A Q (pc + 3) lv st ws cells slots) : WC M p l e R s m args below meth c D A Q pc lv (.int y :: .int x :: st) ws cells slots :=
  fun H locs ls hP hD hS hl => lv_icmp_ge K.1 K.2.1 hd ht (fun z => absurd z hn) (fun _ => kk H locs ls hP hD hS hl)
theorem wc_geY (K : KC ts M p s m args meth c D cA A) (off : Int) (t : Nat) {x y : Int32} (hd : decode M.2.1 pc = .ok (.if_icmp .ge off, 3)) (ht : (pc : Int) + off = (t : Int)) (hn : y ≤ x) (kk : WC M p l e R s m args below meth c D A Q t lv st ws cells slots) : WC M p l e R s m args below meth c D A Q pc lv (.int y :: .int x :: st) ws cells slots :=
  fun H locs ls hP hD hS hl => lv_icmp_ge K.1 K.2.1 hd ht (fun _ => kk H locs ls hP hD hS hl) (fun z => absurd hn z)
theorem wc_gtN (K : KC ts M p s m args meth c D cA A) (off : Int) (t : Nat) {x y : Int32} (hd : decode M.2.1 pc = .ok (.if_icmp .gt off, 3)) (ht : (pc : Int) + off = (t : Int)) (hn : ¬ y < x) (kk : WC M p l e R s m args below meth c D A Q (pc + 3) lv st ws cells slots) : WC M p l e R s m args below meth c D A Q pc lv (.int y :: .int x :: st) ws cells slots :=
  fun H locs ls hP hD hS hl => lv_icmp_gt K.1 K.2.1 hd ht (fun z => absurd z hn) (fun _ => kk H locs ls hP hD hS hl)
theorem wc_gtY (K : KC ts M p s m args meth c D cA A) (off : Int) (t : Nat) {x y : Int32} (hd : decode M.2.1 pc = .ok (.if_icmp .gt off, 3)) (ht : (pc : Int) + off = (t : Int)) (hn : y < x) (kk : WC M p l e R s m args below meth c D A Q t lv st ws cells slots) : WC M p l e R s m args below meth c D A Q pc lv (.int y :: .int x :: st) ws cells slots :=
  fun H locs ls hP hD hS hl => lv_icmp_gt K.1 K.2.1 hd ht (fun _ => kk H locs ls hP hD hS hl) (fun z => absurd hn z)
theorem wc_obj (K : KC ts M p s m args meth c D cA A) (idx : Nat) {a : Nat} (hR : 1 ≤ R.frames ∧ 60 ≤ R.locals) (h1 : Cond.methodLink M.1.cls idx Lib.objectInit ∈ gt) (hd : decode M.2.1 pc = .ok (.invokespecial idx, 3)) (kk : WC M p l e R s m args below meth c D A Q (pc + 3) lv [] ws cells slots) : WC M p l e R s m args below meth c D A Q pc lv [.ref a] ws cells slots := by
  intro H locs ls hP hD hS hl
  have hts := K.2.2.2.2.1
  exact W.objInit K.1 K.2.1 K.2.2.2.1 (hts _ h1) (hts (.instanceMethod Lib.objectInit) (by decide +kernel)) (hts (.code Lib.objectInit ⟨#[0xb1]⟩ 1 none) (by decide +kernel)) rfl (hl.1.trans K.2.2.1.symm) rfl hd hR.1 (by show 2 * 0 + (List.map _ []).sum + 12 ≤ R.locals; simp only [List.map_nil, List.sum_nil]; omega) (kk H locs ls hP hD hS hl)
theorem va_K.ty {D : va_G} {cA : Nat → ClassId} {s : State} (hK : va_K D vwCl (tysL cA) s) {x : ClassId} {ty : FieldType} (h1 : va_K D vwCl (tysL cA ++ [(x, ty)]) s) (k : Nat) (hk : (tysL cA)[k]? = some (cA k, ty)) (ht : ∀ U : State, ∀ y z : ClassId, va_RA U y ty → va_RA U z ty → y = z) : x = cA k := ht s _ _ (h1.2 6 (x, ty) rfl).2 (hK.2 k _ hk).2
theorem ra_i {U : State} {y z : ClassId} (h1 : va_RA U y .int) (h2 : va_RA U z .int) : y = z := Option.some.inj ((show U.vm.findClass _ = some y from h1).symm.trans h2)
theorem ra_l {U : State} {y z : ClassId} (h1 : va_RA U y .long) (h2 : va_RA U z .long) : y = z := Option.some.inj ((show U.vm.findClass _ = some y from h1).symm.trans h2)
theorem ra_b {U : State} {y z : ClassId} (h1 : va_RA U y .byte) (h2 : va_RA U z .byte) : y = z := Option.some.inj ((show U.vm.findClass _ = some y from h1).symm.trans h2)
theorem ra_z {U : State} {y z : ClassId} (h1 : va_RA U y .boolean) (h2 : va_RA U z .boolean) : y = z := Option.some.inj ((show U.vm.findClass _ = some y from h1).symm.trans h2)
theorem ra_a {U : State} {y z : ClassId} (h1 : va_RA U y (.array .int)) (h2 : va_RA U z (.array .int)) : y = z := Option.some.inj ((show U.vm.findClass _ = some y from h1).symm.trans h2)
theorem ra_o {C : String} {U : State} {y z : ClassId} (h1 : va_RA U y (.object C)) (h2 : va_RA U z (.object C)) : y = z := by
  obtain ⟨_, _, -, -, -, e1⟩ := h1
  obtain ⟨_, _, -, -, -, e2⟩ := h2
  exact Option.some.inj (e1.symm.trans e2)
theorem wc_newi (K : KC ts M p s m args meth c D cA A) (N : Nat) {n : Int32} (hn : ¬ n < 0) (hN : n.toNatClampNeg = N) (hb : N ≤ 10000) (hc : cells + 1 ≤ R.cells) (hs : slots + N ≤ R.slots) (hd : decode M.2.1 pc = .ok (.newarray .int, 2)) (kk : ∀ q : Nat, WC M p l e R s m args below meth c D A Q (pc + 2) lv (.ref q :: st) (ws ++ [(q, .inl (cA 0, N, .inl (fun _ => 0)))]) (cells + 1) (slots + N)) : WC M p l e R s m args below meth c D A Q pc lv (.int n :: st) ws cells slots := by
  intro H locs ls hP hD hS hl
  obtain ⟨k1, k2, k3, k4, hts, hK, -, -, hA⟩ := K
  refine va_newa (atype := .int) (ty := .int) (a0 := (N, .inl (fun _ => 0))) k1 k2 (hts (.arrayClass .int) (by decide +kernel)) rfl hK hP hD hS hA (fun _ => vp_cell_i _ _ _) hn hN (by show N * 4 ≤ _; omega) hc hs hd (fun q x H1 hK1 hP1 hD1 hS1 => ?_)
  cases va_K.ty hK hK1 0 rfl (fun _ _ _ => ra_i)
  exact kk q H1 locs ls hP1 hD1 hS1 hl
theorem wc_newl (K : KC ts M p s m args meth c D cA A) (N : Nat) {n : Int32} (hn : ¬ n < 0) (hN : n.toNatClampNeg = N) (hb : N ≤ 10000) (hc : cells + 1 ≤ R.cells) (hs : slots + N ≤ R.slots) (hd : decode M.2.1 pc = .ok (.newarray .long, 2)) (kk : ∀ q : Nat, WC M p l e R s m args below meth c D A Q (pc + 2) lv (.ref q :: st) (ws ++ [(q, .inl (cA 1, N, .inr (.inl (fun _ => 0))))]) (cells + 1) (slots + N)) : WC M p l e R s m args below meth c D A Q pc lv (.int n :: st) ws cells slots := by
  intro H locs ls hP hD hS hl
  obtain ⟨k1, k2, k3, k4, hts, hK, -, -, hA⟩ := K
  refine va_newa (atype := .long) (ty := .long) (a0 := (N, .inr (.inl (fun _ => 0)))) k1 k2 (hts (.arrayClass .long) (by decide +kernel)) rfl hK hP hD hS hA (fun _ => vp_cell_l _ _ _) hn hN (by show N * 8 ≤ _; omega) hc hs hd (fun q x H1 hK1 hP1 hD1 hS1 => ?_)
  cases va_K.ty hK hK1 1 rfl (fun _ _ _ => ra_l)
  exact kk q H1 locs ls hP1 hD1 hS1 hl
theorem wc_newb (K : KC ts M p s m args meth c D cA A) (N : Nat) {n : Int32} (hn : ¬ n < 0) (hN : n.toNatClampNeg = N) (hb : N ≤ 10000) (hc : cells + 1 ≤ R.cells) (hs : slots + N ≤ R.slots) (hd : decode M.2.1 pc = .ok (.newarray .byte, 2)) (kk : ∀ q : Nat, WC M p l e R s m args below meth c D A Q (pc + 2) lv (.ref q :: st) (ws ++ [(q, .inl (cA 2, N, .inl (fun _ => 0)))]) (cells + 1) (slots + N)) : WC M p l e R s m args below meth c D A Q pc lv (.int n :: st) ws cells slots := by
  intro H locs ls hP hD hS hl
  obtain ⟨k1, k2, k3, k4, hts, hK, -, -, hA⟩ := K
  refine va_newa (atype := .byte) (ty := .byte) (a0 := (N, .inl (fun _ => 0))) k1 k2 (hts (.arrayClass .byte) (by decide +kernel)) rfl hK hP hD hS hA (fun _ => vp_cell_i _ _ _) hn hN (by show N * 1 ≤ _; omega) hc hs hd (fun q x H1 hK1 hP1 hD1 hS1 => ?_)
  cases va_K.ty hK hK1 2 rfl (fun _ _ _ => ra_b)
  exact kk q H1 locs ls hP1 hD1 hS1 hl
theorem wc_newz (K : KC ts M p s m args meth c D cA A) (N : Nat) {n : Int32} (hn : ¬ n < 0) (hN : n.toNatClampNeg = N) (hb : N ≤ 10000) (hc : cells + 1 ≤ R.cells) (hs : slots + N ≤ R.slots) (hd : decode M.2.1 pc = .ok (.newarray .boolean, 2)) (kk : ∀ q : Nat, WC M p l e R s m args below meth c D A Q (pc + 2) lv (.ref q :: st) (ws ++ [(q, .inl (cA 3, N, .inl (fun _ => 0)))]) (cells + 1) (slots + N)) : WC M p l e R s m args below meth c D A Q pc lv (.int n :: st) ws cells slots := by
  intro H locs ls hP hD hS hl
  obtain ⟨k1, k2, k3, k4, hts, hK, -, -, hA⟩ := K
  refine va_newa (atype := .boolean) (ty := .boolean) (a0 := (N, .inl (fun _ => 0))) k1 k2 (hts (.arrayClass .boolean) (by decide +kernel)) rfl hK hP hD hS hA (fun _ => vp_cell_i _ _ _) hn hN (by show N * 1 ≤ _; omega) hc hs hd (fun q x H1 hK1 hP1 hD1 hS1 => ?_)
  cases va_K.ty hK hK1 3 rfl (fun _ _ _ => ra_z)
  exact kk q H1 locs ls hP1 hD1 hS1 hl
theorem wc_newq (K : KC ts M p s m args meth c D cA A) (idx N : Nat) {n : Int32} (h1 : Cond.classLink M.1.cls idx RX8 ∈ gt) (hn : ¬ n < 0) (hN : n.toNatClampNeg = N) (hb : N ≤ 10000) (hc : cells + 1 ≤ R.cells) (hs : slots + N ≤ R.slots) (hd : decode M.2.1 pc = .ok (.anewarray idx, 3)) (kk : ∀ q : Nat, WC M p l e R s m args below meth c D A Q (pc + 3) lv (.ref q :: st) (ws ++ [(q, .inl (cA 4, N, .inr (.inr (.inr (.inr (fun _ => none))))))]) (cells + 1) (slots + N)) : WC M p l e R s m args below meth c D A Q pc lv (.int n :: st) ws cells slots := by
  intro H locs ls hP hD hS hl
  obtain ⟨k1, k2, k3, k4, hts, hK, hN9, -, hA⟩ := K
  refine va_newq k1 k2 k4 (hts _ h1) hN9.2.1 hK hP hD hS hA hn hN (by omega) hc hs hd (fun q x H1 hK1 hP1 hD1 hS1 => ?_)
  cases va_K.ty hK hK1 4 rfl (fun _ _ _ => ra_o)
  exact kk q H1 locs ls hP1 hD1 hS1 hl
theorem vr_all {l : List Nat} {f : Nat → va_E} {v : va_E} : va_pl ([] ++ l) (vr_up f l v) = l.map (fun a => (a, v)) := by
  unfold va_pl
  rw [List.nil_append]
  exact List.map_congr_left (fun a ha => by rw [vr_up_in ha])
theorem wc_mna (K : KC ts M p s m args meth c D cA A) (idx N L : Nat) {n k : Int32} (h1 : Cond.classLink M.1.cls idx ("[" ++ (FieldType.array .int).toString) ∈ gt) (hn : ¬ n < 0) (hk : ¬ k < 0) (hN : n.toNatClampNeg = N) (hL : k.toNatClampNeg = L) (hb : N ≤ 10000) (hb2 : L ≤ 10000) (hc : cells + (1 + N) ≤ R.cells) (hs : slots + (N + N * L) ≤ R.slots) (hd : decode M.2.1 pc = .ok (.multianewarray idx 2, 4))
    (kk : ∀ (q : Nat) (r : Nat → Nat), WC M p l e R s m args below meth c D A Q (pc + 4) lv (.ref q :: st) ((ws ++ [(q, .inl (cA 5, N, .inr (.inr (.inr (.inr (fun i => if i < N then some (r i) else none))))))]) ++ ((List.range N).map r).map (fun a => (a, .inl (cA 0, L, .inl (fun _ => 0))))) (cells + 1 + N) (slots + N + N * L)) : WC M p l e R s m args below meth c D A Q pc lv (.int k :: .int n :: st) ws cells slots := by
  intro H locs ls hP hD hS hl
  obtain ⟨k1, k2, k3, k4, hts, hK, hN9, -, hA⟩ := K
  have e0 : ws ++ va_pl [] (fun _ => (.inr (0, []) : va_E)) = ws := List.append_nil ws
  refine va_mna (X := ws) (L := []) (f := fun _ => .inr (0, [])) (ty := .int) (cy := cA 0) (z := (L, .inl (fun _ => 0))) k1 k2 k4 (hts _ h1) hN9.2.2.1 (hts (.arrayClass .int) (by decide +kernel)) (hK.2 0 _ rfl).2 hK (by rw [e0]; exact hP) (by rw [e0]; exact hD) hS hA hn hk hN hL (by omega) (by show L * 4 ≤ _; omega) (by omega) rfl rfl hc hs (fun c => by rw [vp_cell_i]; exact arrV_new _ _ _) hd (fun q r x H1 _ _ hK1 hP1 hD1 hS1 => ?_)
  cases va_K.ty hK hK1 5 rfl (fun _ _ _ => ra_a)
  rw [vr_all] at hP1 hD1
  exact kk q r H1 locs ls hP1 hD1 hS1 hl
theorem wc_new (K : KC ts M p s m args meth c D cA A) (idx ci : Nat) {q0 : vw_C} (fs : List Value) (hq : vwCl[ci]? = some q0) (h1 : Cond.classLink M.1.cls idx q0.1 ∈ gt) (h2 : Cond.instantiable q0.1 q0.2.2 ∈ gt) (h3 : Cond.initialized q0.1 ∈ gt) (hfs : ∀ (ty : Nat → FieldType), (∀ k, k < q0.2.2 → parseFieldDescriptor (q0.2.1 k).2.2.1 = some (ty k)) → ∀ j, j < q0.2.2 → defaultValue (ty j) = vp_V fs j) (hc : cells + 1 ≤ R.cells) (hs : slots + q0.2.2 ≤ R.slots) (hd : decode M.2.1 pc = .ok (.new idx, 3)) (kk : ∀ q : Nat, WC M p l e R s m args below meth c D A Q (pc + 3) lv (.ref q :: st) (ws ++ [(q, .inr (ci, fs))]) (cells + 1) (slots + q0.2.2)) : WC M p l e R s m args below meth c D A Q pc lv st ws cells slots := by
  intro H locs ls hP hD hS hl
  obtain ⟨k1, k2, k3, k4, hts, hK, -, -, hA⟩ := K
  obtain ⟨c1, ty0, c2, c3⟩ := cl_ok ci q0 hq
  exact va_new (C := q0.1) (T := q0.2.1) (N := q0.2.2) k1 k2 hts c1 ty0 c2 k4 (hts _ h1) (hts _ h2) (hts _ h3) hK hP hD hS hA hq (hfs ty0 c2) hc hs hd (fun q H1 hP1 hD1 hS1 => kk q H1 locs ls hP1 hD1 hS1 hl)
theorem wc_putF (K : KC ts M p s m args meth c D cA A) (idx q0 ci kf : Nat) {q : vw_C} {a : Nat} {v : Value} {fs : List Value} {ty : FieldType} (ws' : va_W) (hq : vwCl[ci]? = some q) (he : ws[q0]? = some (a, .inr (ci, fs))) (hk : kf < q.2.2) (hg : Cond.fieldLink M.1.cls idx (q.2.1 kf).1 (q.2.1 kf).2.1 (q.2.1 kf).2.2.1 ∈ gt) (hfin : (q.2.1 kf).2.2.2 = true) (hdecl : (q.2.1 kf).1 = M.1.cls) (hpd : parseFieldDescriptor (q.2.1 kf).2.2.1 = some ty) (hn : narrow ty v = v) (hft : fits ty v = true) (hl2 : kf < fs.length) (hd : decode M.2.1 pc = .ok (.putfield idx, 3)) (hw : ws.set q0 (a, .inr (ci, fs.set kf v)) = ws') (kk : WC M p l e R s m args below meth c D A Q (pc + 3) lv st ws' cells slots) : WC M p l e R s m args below meth c D A Q pc lv (v :: .ref a :: st) ws cells slots := by
  intro H locs ls hP hD hS hl
  subst hw
  obtain ⟨k1, k2, k3, k4, hts, hK, -, hin, hA⟩ := K
  obtain ⟨c1, ty0, c2, c3⟩ := cl_ok ci q hq
  exact va_putF k1 k2 hts c1 ty0 c2 c3 k4 hK hP hD hS q0 he hq kf hk (hts _ hg) (fun _ z => z) hfin hin hdecl hpd hn hft hl2 hd (fun H1 locs1 hP1 hD1 hS1 => kk H1 locs1 ls hP1 hD1 hS1 hl)
theorem wc_put (K : KC ts M p s m args meth c D cA A) (idx q0 ci kf : Nat) {q : vw_C} {a : Nat} {v : Value} {fs : List Value} {ty : FieldType} (ws' : va_W) (hq : vwCl[ci]? = some q) (he : ws[q0]? = some (a, .inr (ci, fs))) (hk : kf < q.2.2) (hg : Cond.fieldLink M.1.cls idx (q.2.1 kf).1 (q.2.1 kf).2.1 (q.2.1 kf).2.2.1 ∈ gt) (hfin : (q.2.1 kf).2.2.2 = false) (hpd : parseFieldDescriptor (q.2.1 kf).2.2.1 = some ty) (hn : narrow ty v = v) (hft : fits ty v = true) (hl2 : kf < fs.length) (hd : decode M.2.1 pc = .ok (.putfield idx, 3)) (hw : ws.set q0 (a, .inr (ci, fs.set kf v)) = ws') (kk : WC M p l e R s m args below meth c D A Q (pc + 3) lv st ws' cells slots) : WC M p l e R s m args below meth c D A Q pc lv (v :: .ref a :: st) ws cells slots := by
  intro H locs ls hP hD hS hl
  subst hw
  obtain ⟨k1, k2, k3, k4, hts, hK, -, hin, hA⟩ := K
  obtain ⟨c1, ty0, c2, c3⟩ := cl_ok ci q hq
  exact va_put k1 k2 hts c1 ty0 c2 c3 k4 hK hP hD hS q0 he hq kf hk (hts _ hg) (fun _ z => z) hfin hpd hn hft hl2 hd (fun H1 locs1 hP1 hD1 hS1 => kk H1 locs1 ls hP1 hD1 hS1 hl)
theorem wc_get (K : KC ts M p s m args meth c D cA A) (idx q0 ci kf : Nat) {q : vw_C} {a : Nat} {v : Value} {fs : List Value} (hq : vwCl[ci]? = some q) (he : ws[q0]? = some (a, .inr (ci, fs))) (hk : kf < q.2.2) (hg : Cond.fieldLink M.1.cls idx (q.2.1 kf).1 (q.2.1 kf).2.1 (q.2.1 kf).2.2.1 ∈ gt) (hv : fs[kf]? = some v) (hd : decode M.2.1 pc = .ok (.getfield idx, 3)) (kk : WC M p l e R s m args below meth c D A Q (pc + 3) lv (v :: st) ws cells slots) : WC M p l e R s m args below meth c D A Q pc lv (.ref a :: st) ws cells slots := by
  intro H locs ls hP hD hS hl
  obtain ⟨k1, k2, k3, k4, hts, hK, -, hin, hA⟩ := K
  exact va_get k1 k2 hts (cl_ok ci q hq).1 k4 hK hP q0 he hq kf hk (hts _ hg) (fun _ z => z) hv hd (kk H locs ls hP hD hS hl)
theorem wc_iast (K : KC ts M p s m args meth c D cA A) (q0 : Nat) {a n : Nat} {f : Nat → Int32} {i x : Int32} (ws' : va_W) (he : ws[q0]? = some (a, .inl (cA 0, n, .inl f))) (hin : vp_in i n) (hd : decode M.2.1 pc = .ok (.iastore, 1)) (hw : ws.set q0 (a, .inl (cA 0, n, .inl (upd f i.toNatClampNeg x))) = ws') (kk : WC M p l e R s m args below meth c D A Q (pc + 1) lv st ws' cells slots) : WC M p l e R s m args below meth c D A Q pc lv (.int x :: .int i :: .ref a :: st) ws cells slots := by
  intro H locs ls hP hD hS hl
  subst hw
  obtain ⟨k1, k2, k3, k4, hts, hK, -, -, hA⟩ := K
  exact va_iast k1 k2 hK hP hD hS q0 0 he rfl hin hd (fun H1 locs1 hP1 hD1 hS1 => kk H1 locs1 ls hP1 hD1 hS1 hl)
theorem wc_aast (K : KC ts M p s m args meth c D cA A) (q0 qk : Nat) {a n v : Nat} {f : Nat → Option Nat} {vs : List Value} {i : Int32} (ws' : va_W) (he : ws[q0]? = some (a, .inl (cA 4, n, .inr (.inr (.inr (.inr f)))))) (hv : ws[qk]? = some (v, .inr (8, vs))) (hin : vp_in i n) (hd : decode M.2.1 pc = .ok (.aastore, 1)) (hw : ws.set q0 (a, .inl (cA 4, n, .inr (.inr (.inr (.inr (va_up f i.toNatClampNeg (some v))))))) = ws') (kk : WC M p l e R s m args below meth c D A Q (pc + 1) lv st ws' cells slots) : WC M p l e R s m args below meth c D A Q pc lv (.ref v :: .int i :: .ref a :: st) ws cells slots := by
  intro H locs ls hP hD hS hl
  subst hw
  obtain ⟨k1, k2, k3, k4, hts, hK, -, -, hA⟩ := K
  exact va_astq (r := (RX8, TX8, 1)) k1 k2 hK hP hD hS q0 4 qk 8 he rfl hv rfl hin hd (fun H1 locs1 hP1 hD1 hS1 => kk H1 locs1 ls hP1 hD1 hS1 hl)
/-- behind a constructor of the last cell: the others stay -/
theorem ctor_join {W0 w1 : va_W} {a : Nat} {e0 : va_E} {H H1 : Heap} {H0 : Heap} {locs : List Loc} (hP : va_P D vwCl (W0 ++ [(a, e0)]) H) (hD : va_D A (W0 ++ [(a, e0)])) (hS : va_S A H0 H locs) (hA : ∀ q, H0.size ≤ q → A q) (hk : ∀ q : Nat, q < H.size → ¬ va_A [(a, e0)] H.size q → H1[q]? = H[q]?) (hP1 : va_P D vwCl w1 H1) (hD1 : va_D (va_A [(a, e0)] H.size) w1) : va_P D vwCl (W0 ++ w1) H1 ∧ va_D A (W0 ++ w1) := by
  have ha : (W0 ++ [(a, e0)])[W0.length]? = some (a, e0) := by rw [List.getElem?_append_right (Nat.le_refl _), Nat.sub_self]; rfl
  have h0 : ∀ (i : Nat) (x : Nat × va_E), W0[i]? = some x → (W0 ++ [(a, e0)])[i]? = some x := fun i x hx => by rw [List.getElem?_append_left (List.getElem?_eq_some_iff.mp hx).1]; exact hx
  have hn : ∀ (i : Nat) (x : Nat × va_E), W0[i]? = some x → ¬ va_A [(a, e0)] H.size x.1 := fun i x hx z => by
    rcases z with ⟨k, e1, hk1⟩ | z
    · rcases k with _ | k
      · cases hk1
        have := hD.1 i W0.length _ _ (h0 i x hx) ha rfl
        have := (List.getElem?_eq_some_iff.mp hx).1
        omega
      · cases hk1
    · have := vx_lt hP (h0 i x hx)
      omega
  have hw : ∀ z, va_A [(a, e0)] H.size z → A z := fun z hz => by
    rcases hz with ⟨k, e1, hk1⟩ | hz
    · rcases k with _ | k
      · cases hk1; exact hD.2 _ _ ha
      · cases hk1
    · exact hA z (Nat.le_trans hS.1 hz)
  have hP0 : va_P D vwCl W0 H1 := fun i x hx => (hP i x (h0 i x hx)).kept (hk _ (vx_lt hP (h0 i x hx)) (hn i x hx))
  refine ⟨hP0.app hP1, va_D.app ⟨fun i j x y hx hy e1 => hD.1 i j x y (h0 i x hx) (h0 j y hy) e1, fun k x hx => hD.2 k x (h0 k x hx)⟩ (hD1.weaken (fun _ _ _ z => hw _ z)) (fun i j x y hx hy e1 => hn i x hx (e1 ▸ hD1.2 j y hy))⟩
theorem wc_ctor (K : KC ts M p s m args meth c D cA A) (idx : Nat) {Mc : MT} {W0 : va_W} {a ci k mc ms n : Nat} {fs As : List Value} {Wn : (Nat → ClassId) → Nat → (Nat → Nat) → va_W} (hC : CN ts Mc k mc ms As ci fs Wn) (hret : Mc.2.2.2 = none) (hnm : Mc.1.name = "<init>")
    (hlink : Cond.methodLink M.1.cls idx Mc.1 ∈ gt ∨ Cond.methodLinkNest M.1.cls idx Mc.1 RX11 ∈ nestL) (g2 : Cond.instanceMethod Mc.1 ∈ gt) (g3 : Cond.initialized Mc.1.cls ∈ gt) (g4 : Cond.code Mc.1 Mc.2.1 Mc.2.2.1 Mc.2.2.2 ∈ gt)
    (hy : Mc.1.cls ≠ "java/lang/invoke/MethodHandle" ∧ Mc.1.cls ≠ "java/lang/invoke/VarHandle" ∧ (parseMethodDescriptor Mc.1.desc).map (fun d => d.parameters.length) = some n) (hR : k + 1 ≤ R.frames ∧ 8 + (Mc.2.2.1 + 11) + 60 * k ≤ R.locals) (hc : cells + mc ≤ R.cells ∧ slots + ms ≤ R.slots) (hcat : (st.map fun v => v.category).sum ≤ 8) (hd : decode M.2.1 pc = .ok (.invokespecial idx, 3)) (hn : As.length = n)
    (kk : ∀ u : Nat → Nat, WC M p l e R s m args below meth c D A Q (pc + 3) lv st (W0 ++ Wn cA a u) (cells + mc) (slots + ms)) : WC M p l e R s m args below meth c D A Q pc lv (As.reverse ++ .ref a :: st) (W0 ++ [(a, .inr (ci, fs))]) cells slots := by
  intro H locs ls hP hD hS hl
  obtain ⟨k1, k2, k3, k4, hts, hK, hNI, -, hA⟩ := K
  have ha : (W0 ++ [(a, (.inr (ci, fs) : va_E))])[W0.length]? = some (a, .inr (ci, fs)) := by rw [List.getElem?_append_right (Nat.le_refl _), Nat.sub_self]; rfl
  have hP0 : va_P D vwCl [(a, .inr (ci, fs))] H := fun i x hx => by
    rcases i with _ | i
    · cases hx; exact hP _ _ ha
    · cases hx
  have hpre : PreS s H (va_Pc (.ref a :: As) (fun U => U.heap.size = H.size ∧ va_P D vwCl [(a, .inr (ci, fs))] U.heap ∧ va_K D vwCl (tysL cA) U ∧ NI ts U)) (.ref a :: As) :=
    ⟨fun a U g mk q => by obtain ⟨q0, q1, q2, q3, q4⟩ := q; exact ⟨q0, q1, q2, va_K.moved (u := U) (U := U.calling g mk a) (Vm.Alike.refl U.vm) q3, q4.same rfl⟩, fun U hU hW => ⟨rfl, by rw [hU], by rw [hU]; exact hP0, va_K.moved hW.alike hK, hNI.warm hW⟩⟩
  have hM := hC l D cA a H.size
  have hcw : Cond.code Mc.1 Mc.2.1 Mc.2.2.1 none ∈ gt := by rw [← hret]; exact g4
  have hr : va_Run p l e R s m args below meth c H locs cells slots mc ms (F0 m pc ls (As.reverse ++ .ref a :: st)) st (CtQ D a H.size ci fs (Wn cA a)) (va_A [(a, .inr (ci, fs))] H.size) := by
    rcases hlink with h | h
    · exact va_runI (Ts := gt) (bytes := Mc.2.1) (maxL := Mc.2.2.1) (n := n) ⟨k1, k2, k3, k4, hts⟩ hM ⟨callB_of n hts (gin Mc g4) (by unfold wsM; rw [hret]) rfl rfl (hts _ g3) (hts _ h) hy hR, hnm, hts _ g2⟩ hpre rfl hn hl.1 rfl (lv_room hcat) hd hc
    · exact va_runIN (Ts := gt) (bytes := Mc.2.1) (maxL := Mc.2.2.1) (n := n) (host := RX11) ⟨k1, k2, k3, k4, hts⟩ hM ⟨va_cnB n hts (gin Mc g4) (by unfold wsM; rw [hret]) rfl rfl (hNI.1 _ h) (hts _ g3) hy hR, hnm, hts _ g2⟩ hpre rfl hn hl.1 rfl (lv_room hcat) hd hc
  intro T hT X
  obtain ⟨v0, st₀, t, T', L, h0, X', hL, e1, e2, ⟨⟨u, hv, hP1, hD1⟩, hz, hk⟩, step⟩ := hr T hT X
  cases hv
  rw [h0] at hz hk
  obtain ⟨hP2, hD2⟩ := ctor_join (w1 := Wn cA a u) hP hD hS hA (H1 := T'.heap) (fun q z1 z2 => by rw [e1]; exact hk q z1 z2) (by rw [e1]; exact hP1) hD1
  have hAw : ∀ z, va_A [(a, (.inr (ci, fs) : va_E))] H.size z → A z := fun z hz => by
    rcases hz with ⟨k, e1, hk1⟩ | hz
    · rcases k with _ | k
      · cases hk1; exact hD.2 _ _ ha
      · cases hk1
    · exact hA z (Nat.le_trans hS.1 hz)
  obtain ⟨t2, a1, b1⟩ := kk u T'.heap (locs ++ L) ls hP2 hD2
    ⟨Nat.le_trans hS.1 (by rw [e1]; exact hz), fun q h1 h2 => by rw [e1, hk q (Nat.lt_of_lt_of_le h1 hS.1) (fun z => h2 (hAw q z))]; exact hS.2.1 q h1 h2, fun q hq => by
      rcases List.mem_append.mp hq with z | z
      · exact hS.2.2 q z
      · exact hAw _ (hL q z)⟩ hl T' rfl X'
  exact ⟨t2, step t2 a1, b1⟩
end RULES
theorem cn_wc {ts : Nat → Nat → Nat} {M : MT} {k mc ms ci : Nat} {As fs : List Value} {Wn : (Nat → ClassId) → Nat → (Nat → Nat) → va_W} (lv : Nat → List (Nat × Value)) (hy : plainName M.1.cls = true) (hnm : M.1.name = "<init>") (hlen : ∀ a : Nat, (lg_sl (Value.ref a :: As)).length ≤ M.2.2.1) (hlv : ∀ a : Nat, lv_args 0 (Value.ref a :: As) = lv a)
    (kk : ∀ (p : Program) (l : Launch) (e : Env) (s : State) (m : MethodId) (args : Array Value) (below : List Frame) (meth : Method) (c : Code) (D : va_G) (cA : Nat → ClassId) (A : Nat → Prop) (Q : State → Prop) (a : Nat), KC ts M p s m args meth c D cA A →
      (∀ (pc : Nat) (lv : List (Nat × Value)) (u : Nat → Nat) (cells slots : Nat), decode M.2.1 pc = .ok (.return_, 1) → cells ≤ mc → slots ≤ ms → WC M p l e { frames := k, cells := mc, slots := ms, locals := 60 * k } s m args below meth c D A Q pc lv [] (Wn cA a u) cells slots) →
      WC M p l e { frames := k, cells := mc, slots := ms, locals := 60 * k } s m args below meth c D A Q 0 (lv a) [] [(a, .inr (ci, fs))] 0 0) (hret : M.2.2.2 = none) : CN ts M k mc ms As ci fs Wn := by
  intro l D cA a sz
  refine Met.ofW (cc := M.2.1) (maxL := M.2.2.1) (ret := M.2.2.2) hy rfl ?_
  intro p e s m args below meth c s₁ B hml hv
  obtain ⟨rfl, rfl, hP, hK, hN⟩ := hv
  have hts := atoms_spec (ws := wsM M) B.pre
  have hl := lv_entry (Value.ref a :: As) (n := M.2.2.1) (hlen a)
  rw [lg_entry_eq]
  generalize (lg_sl (Value.ref a :: As) ++ List.replicate (M.2.2.1 - (lg_sl (Value.ref a :: As)).length) Slot.unset).toArray = ls at hl ⊢
  rw [hlv] at hl
  have hr : meth.sig.returnType = none := by rw [B.returns, hret]
  have hlocks := B.notSynchronized
  refine kk p l e s m _ below meth c D cA (va_A [(a, .inr (ci, fs))] s.heap.size) _ a ⟨B.exec, B.bytes, hml, findClass_of_methodNamed B.named, fun w hw => hts w (List.mem_cons_of_mem _ hw), hK, hN, ((name_of_methodNamed B.named B.method).1).trans hnm, fun q z => Or.inr z⟩ ?_ s.heap [] ls hP ⟨fun i j x y hx hy _ => ?_, fun i x hx => ?_⟩ va_S.rf hl
  · intro pc lv u cells slots hd hc hs H locs ls hP hD hS hl
    refine W.widen (k := mc) (n := ms) hc hs ?_
    exact W.vret B.exec B.bytes hr (fun t ht hW => ⟨⟨u, rfl, by rw [ht]; exact hP, hD⟩, hS.F ht⟩) hS.2.2 hd
  · have h1 := (List.getElem?_eq_some_iff.mp hx).1
    have h2 := (List.getElem?_eq_some_iff.mp hy).1
    simp at h1 h2
    omega
  · exact va_A.in hx
