/-! throwing: a walk that ends in 'throw new NoSuchElementException()' -/
def NSE : String := "java/util/NoSuchElementException"
def nms : List String := ["java/lang/RuntimeException", "java/lang/Exception"]
def nwL : List Cond := [.declares (Bundle.init0 "java/lang/RuntimeException"), .declares (Bundle.init0 "java/lang/Exception"), .declares (Bundle.init0 "java/lang/Throwable"), .castable NSE NSE]
def EW (U : State) : Prop := ∀ w ∈ nwL, va_Nw w U
theorem EW.warm {s U : State} (h : EW s) (hW : s.WarmedH U.vm) : EW U := by
  intro w hw
  have h0 := h w hw
  simp only [nwL, List.mem_cons, List.not_mem_nil, or_false] at hw
  rcases hw with rfl | rfl | rfl | rfl
  · exact va_Nw.warmD hW h0
  · exact va_Nw.warmD hW h0
  · exact va_Nw.warmD hW h0
  · exact va_Nw.warmC hW h0
theorem nwL_on : ∀ w ∈ nwL, w.onTables = true := by
  intro w hw
  simp only [nwL, List.mem_cons, List.not_mem_nil, or_false] at hw
  rcases hw with rfl | rfl | rfl | rfl <;> rfl
theorem EW.use {U : State} (h : EW U) (A : Array Value) : ∀ w ∈ nwL, w.before A U = true := fun w hw => va_Nw.use (nwL_on w hw) (h w hw)
theorem EW.same {u U : State} (h : EW u) (e : u.vm = U.vm) : EW U := fun w hw => va_Nw.same (nwL_on w hw) e (h w hw)
def EX (A : Nat → Prop) (U : State) : Prop := EW U ∧ vx_Zq Bundle.tN "UNASSIGNED_STACK" Bundle.steD A U U.heap ∧ vx_Zq Bundle.tN "SUPPRESSED_SENTINEL" Bundle.listD A U U.heap
theorem EX.go {A : Nat → Prop} {s U : State} {H : Heap} {locs : List Loc} (h : EX A s) (hS : va_S A s.heap H locs) (hU : U.heap = H) (hW : s.WarmedH U.vm) : EX A U := by
  subst hU
  exact ⟨h.1.warm hW, vx_Zq.moved hW.alike (h.2.1.kept hS.2.1), vx_Zq.moved hW.alike (h.2.2.kept hS.2.1)⟩
theorem EX.call {A : Nat → Prop} {U : State} {g : JFrame} {mk : MethodId} {a : Array Value} (h : EX A U) : EX A (U.calling g mk a) :=
  ⟨h.1.same rfl, vx_Zq.moved (u := U) (U := U.calling g mk a) (Vm.Alike.refl U.vm) h.2.1, vx_Zq.moved (u := U) (U := U.calling g mk a) (Vm.Alike.refl U.vm) h.2.2⟩
theorem EX.narrow {A B : Nat → Prop} {U : State} (h : EX A U) (hAB : ∀ q, B q → A q) : EX B U := ⟨h.1, h.2.1.narrow hAB, h.2.2.narrow hAB⟩
def rmt (k : Nat) : Room := { frames := k + 10, cells := 1, slots := 6, locals := 60 * k + 200 }
/-- what is thrown, over the heap h -/
def XCx (al : List Ad) (D : va_G) (cA : Nat → ClassId) (tr : Ad → Nat) (h : Hp) : String → State → State → Prop := vx_X (fun _ : Unit => True) (fun E _ t => E = NSE ∧ va_P D vwCl (wof cA tr h al) t.heap) (Aw al tr)
def QNo : Array Value → State → Outcome → State → Prop := fun _ _ _ _ => False
/-- M's contract: from the heap h, with the arguments As, it throws, and the heap is h -/
def Cx (al : List Ad) (M : MT) (k : Nat) (As : List AV) (h : Hp) : Prop :=
  ∀ (l : Launch) (D : va_G) (cA : Nat → ClassId) (tr : Ad → Nat), l.stackTraces = false → Inj al tr → hwf al h → stok al As → vx_Met l M.1 (wsM M) (rmt k) (fun a U => PCx al D cA tr h As a U ∧ EX (Aw al tr) U) QNo (XCx al D cA tr h) 1 6 (Aw al tr)
def WPT (al : List Ad) (M : MT) (k : Nat) (P : Hp) (pc : Nat) (lv : List (Option AV)) (st : List AV) (h : Hp) : Prop :=
  ∀ (p : Program) (l : Launch) (e : Env) (s : State) (m : MethodId) (args : Array Value) (below : List Frame) (meth : Method) (c : Code) (D : va_G) (cA : Nat → ClassId) (tr : Ad → Nat), (BX al M p s m args meth c D cA tr ∧ l.stackTraces = false ∧ EX (Aw al tr) s ∧ ∀ x ∈ c.exceptionTable.toList, False) →
    ∀ (H : Heap) (locs : List Loc) (ls : Array Slot), va_P D vwCl (wof cA tr h al) H → va_S (Aw al tr) s.heap H locs → hwf al h → lvok al tr M.2.2.1 ls lv → stok al st →
    W p l e (rmt k) s m args below meth c H locs 0 0 (vx_MQ below QNo (XCx al D cA tr P) args s 1 6 (Aw al tr)) (F0 m pc ls (st.map (trV tr)))
section OPT
variable {al : List Ad} {M : MT} {k : Nat} {P : Hp} {pc : Nat} {lv : List (Option AV)} {st : List AV} {h : Hp}
theorem wt_iconst {n : Int} (hd : decode M.2.1 pc = .ok (.iconst n, 1)) (kk : WPT al M k P (pc + 1) lv (vI (Int32.ofInt n) :: st) h) : WPT al M k P pc lv (st) h := by
  intro p l e s m args below meth c D cA tr B H locs ls hP hS hw hl hs
  exact lv_iconst B.1.1 B.1.2.1 hd rfl (kk p l e s m args below meth c D cA tr B H locs ls hP hS hw hl (sc wfI hs))
theorem wt_bipush {n : Int} (hd : decode M.2.1 pc = .ok (.bipush n, 2)) (kk : WPT al M k P (pc + 2) lv (vI ((Int8.ofInt n).toInt32) :: st) h) : WPT al M k P pc lv (st) h := by
  intro p l e s m args below meth c D cA tr B H locs ls hP hS hw hl hs
  exact lv_bipush B.1.1 B.1.2.1 hd rfl (kk p l e s m args below meth c D cA tr B H locs ls hP hS hw hl (sc wfI hs))
theorem wt_iload_n {i : Fin 4} {x : Int32} (hd : decode M.2.1 pc = .ok (.iload_n i, 1)) (hx : lv[(i : Nat)]? = some (some (vI x))) (kk : WPT al M k P (pc + 1) lv (vI x :: st) h) : WPT al M k P pc lv st h := by
  intro p l e s m args below meth c D cA tr B H locs ls hP hS hw hl hs
  exact lv_iload_n B.1.1 B.1.2.1 hd rfl (hl.2.2 _ _ hx).1 (kk p l e s m args below meth c D cA tr B H locs ls hP hS hw hl (sc wfI hs))
theorem wt_aload_n {i : Fin 4} {a : Ad} (hd : decode M.2.1 pc = .ok (.aload_n i, 1)) (hx : lv[(i : Nat)]? = some (some (.inr (.inr a)))) (kk : WPT al M k P (pc + 1) lv (.inr (.inr a) :: st) h) : WPT al M k P pc lv st h := by
  intro p l e s m args below meth c D cA tr B H locs ls hP hS hw hl hs
  exact lv_aload_n B.1.1 B.1.2.1 hd rfl (hl.2.2 _ _ hx).1 (kk p l e s m args below meth c D cA tr B H locs ls hP hS hw hl (sc (hl.2.2 _ _ hx).2 hs))
theorem wt_if_eq {x : Int32} {off : Int} {t : Nat} (hd : decode M.2.1 pc = .ok (.ifCond .eq off, 3)) (ht : (pc : Int) + off = (t : Int)) (k1 : x = 0 → WPT al M k P t lv st h) (k2 : ¬ x = 0 → WPT al M k P (pc + 3) lv st h) : WPT al M k P pc lv (vI x :: st) h := by
  intro p l e s m args below meth c D cA tr B H locs ls hP hS hw hl hs
  exact lv_if_eq B.1.1 B.1.2.1 hd ht (fun q => k1 q p l e s m args below meth c D cA tr B H locs ls hP hS hw hl (st1 hs)) (fun q => k2 q p l e s m args below meth c D cA tr B H locs ls hP hS hw hl (st1 hs))
theorem wt_if_lt {x : Int32} {off : Int} {t : Nat} (hd : decode M.2.1 pc = .ok (.ifCond .lt off, 3)) (ht : (pc : Int) + off = (t : Int)) (k1 : x < 0 → WPT al M k P t lv st h) (k2 : ¬ x < 0 → WPT al M k P (pc + 3) lv st h) : WPT al M k P pc lv (vI x :: st) h := by
  intro p l e s m args below meth c D cA tr B H locs ls hP hS hw hl hs
  exact lv_if_lt B.1.1 B.1.2.1 hd ht (fun q => k1 q p l e s m args below meth c D cA tr B H locs ls hP hS hw hl (st1 hs)) (fun q => k2 q p l e s m args below meth c D cA tr B H locs ls hP hS hw hl (st1 hs))
theorem wt_icmp_ne {x y : Int32} {off : Int} {t : Nat} (hd : decode M.2.1 pc = .ok (.if_icmp .ne off, 3)) (ht : (pc : Int) + off = (t : Int)) (k1 : ¬ x = y → WPT al M k P t lv st h) (k2 : x = y → WPT al M k P (pc + 3) lv st h) : WPT al M k P pc lv (vI y :: vI x :: st) h := by
  intro p l e s m args below meth c D cA tr B H locs ls hP hS hw hl hs
  exact lv_icmp_ne B.1.1 B.1.2.1 hd ht (fun q => k1 q p l e s m args below meth c D cA tr B H locs ls hP hS hw hl (st2 hs)) (fun q => k2 q p l e s m args below meth c D cA tr B H locs ls hP hS hw hl (st2 hs))
theorem wt_icmp_lt {x y : Int32} {off : Int} {t : Nat} (hd : decode M.2.1 pc = .ok (.if_icmp .lt off, 3)) (ht : (pc : Int) + off = (t : Int)) (k1 : x < y → WPT al M k P t lv st h) (k2 : ¬ x < y → WPT al M k P (pc + 3) lv st h) : WPT al M k P pc lv (vI y :: vI x :: st) h := by
  intro p l e s m args below meth c D cA tr B H locs ls hP hS hw hl hs
  exact lv_icmp_lt B.1.1 B.1.2.1 hd ht (fun q => k1 q p l e s m args below meth c D cA tr B H locs ls hP hS hw hl (st2 hs)) (fun q => k2 q p l e s m args below meth c D cA tr B H locs ls hP hS hw hl (st2 hs))
theorem wt_icmp_le {x y : Int32} {off : Int} {t : Nat} (hd : decode M.2.1 pc = .ok (.if_icmp .le off, 3)) (ht : (pc : Int) + off = (t : Int)) (k1 : x ≤ y → WPT al M k P t lv st h) (k2 : ¬ x ≤ y → WPT al M k P (pc + 3) lv st h) : WPT al M k P pc lv (vI y :: vI x :: st) h := by
  intro p l e s m args below meth c D cA tr B H locs ls hP hS hw hl hs
  exact lv_icmp_le B.1.1 B.1.2.1 hd ht (fun q => k1 q p l e s m args below meth c D cA tr B H locs ls hP hS hw hl (st2 hs)) (fun q => k2 q p l e s m args below meth c D cA tr B H locs ls hP hS hw hl (st2 hs))
theorem wt_getfield {idx ci kf i : Nat} {fd : Fdk} {fds : List Fdk} {q : vw_C} (hok : Okal al) (hd : decode M.2.1 pc = .ok (.getfield idx, 3)) (hq : vwCl[ci]? = some q) (hk : kf < q.2.2) (hg : Cond.fieldLink M.1.cls idx (q.2.1 kf).1 (q.2.1 kf).2.1 (q.2.1 kf).2.2.1 ∈ gt) (hsh : shp ci = .inl fds) (hf : fds[kf]? = some fd) (h5 : fd.1 ≤ 4) (h4 : fd.1 = 4 → ¬ h.2.2 fd.2.1 = 7) (kk : WPT al M k P (pc + 3) lv (fval h (ci, i) kf fd :: st) h) : WPT al M k P pc lv (vR ci i :: st) h := by
  intro p l e s m args below meth c D cA tr B H locs ls hP hS hw hl hs
  have ha : (ci, i) ∈ al := wf_obj (st0 hs) (cl_90 hq)
  obtain ⟨j, hj, hcell⟩ := obj_at (cA := cA) (tr := tr) (h := h) ha hsh
  have hv : (fds.mapIdx (fun k fd => rfv tr h (ci, i) k fd))[kf]? = some (trV tr (fval h (ci, i) kf fd)) := by
    rw [List.getElem?_mapIdx, hf]
    exact congrArg some (rfv_nn h4)
  exact va_get B.1.1 B.1.2.1 B.1.2.2.2.2.2.2.1 (cl_ok ci q hq).1 B.1.2.2.2.2.2.1 B.1.2.2.2.2.2.2.2.1 hP j hcell hq kf hk (B.1.2.2.2.2.2.2.1 _ hg) (fun _ z => z) hv hd (kk p l e s m args below meth c D cA tr B H locs ls hP hS hw hl (sc (fval_wf hok ha hw hsh (List.mem_of_getElem? hf) h4 h5) (st1 hs)))
theorem wt_callV {idx n ci i : Nat} {q : vw_C} {fds : List Fdk} {Mc : MT} {As rest : List AV} {P' : AV → Hp → Prop} (hd : decode M.2.1 pc = .ok (.invokevirtual idx, 3)) (hn : As.length = n) (hq : vwCl[ci]? = some q) (hqc : q.1 = Mc.1.cls) (hsh : shp ci = .inl fds) (g1 : Cond.methodLink M.1.cls idx Mc.1 ∈ gt) (g2 : Cond.instanceMethod Mc.1 ∈ gt) (g5 : Cond.selects Mc.1.cls Mc.1 Mc.1 ∈ gt) (g3 : Cond.initialized Mc.1.cls ∈ gt) (g4 : Cond.code Mc.1 Mc.2.1 Mc.2.2.1 Mc.2.2.2 ∈ gt)
    (hy : Mc.1.cls ≠ "java/lang/invoke/MethodHandle" ∧ Mc.1.cls ≠ "java/lang/invoke/VarHandle" ∧ (parseMethodDescriptor Mc.1.desc).map (fun d => d.parameters.length) = some n) (hm : Mc.2.2.1 ≤ 41) (hcat : catS rest ≤ 8)
    (hC : Ct al Mc k (vR ci i :: As) h P') (kk : ∀ v h', P' v h' → WPT al M k P (pc + 3) lv (retL Mc.2.2.2 v rest) h') : WPT al M k P pc lv (As.reverse ++ vR ci i :: rest) h := by
  intro p l e s m args below meth c D cA tr B H locs ls hP hS hw hl hs
  have hsA : stok al (vR ci i :: As) := fun v hv => (List.mem_cons.mp hv).elim (fun z => hs v (List.mem_append_right _ (List.mem_cons.mpr (Or.inl z)))) (fun z => hs v (List.mem_append_left _ (List.mem_reverse.mpr z)))
  have hsR : stok al rest := fun v hv => hs v (List.mem_append_right _ (List.mem_cons_of_mem _ hv))
  have hts := B.1.2.2.2.2.2.2.1
  have ha : (ci, i) ∈ al := wf_obj (st0 hsA) (cl_90 hq)
  obtain ⟨j0, hj, hcell⟩ := obj_at (cA := cA) (tr := tr) (h := h) ha hsh
  have hrecv := va_recv B.1.2.2.2.2.2.2.2.1 hP hq hcell
  rw [hqc] at hrecv
  refine run_go (va_runV (Ts := gt) (C := Mc.1.cls) (b := tr (ci, i)) (As := As.map (trV tr)) (rest := rest.map (trV tr)) ⟨B.1.1, B.1.2.1, B.1.2.2.1, B.1.2.2.2.2.2.1, hts⟩ (hC l D cA tr B.1.2.2.2.2.2.2.2.2.2 hw hsA)
    ⟨callB_of n hts (gin Mc g4) rfl rfl rfl (hts _ g3) (hts _ g1) hy ⟨by show k + 1 ≤ k + 10; omega, by show 8 + (Mc.2.2.1 + 11) + 60 * k ≤ 60 * k + 200; omega⟩, hts _ g2, hts _ g5⟩
    ⟨pcx_blind, hrecv, fun U hU hW => ⟨rfl, by rw [hU]; exact hP, va_K.moved hW.alike B.1.2.2.2.2.2.2.2.1, B.1.2.2.2.2.2.2.2.2.1.go hS hU hW⟩⟩ rfl (by rw [List.length_map]; exact hn) hl.1 (by show List.map (trV tr) (As.reverse ++ vR ci i :: rest) = _; rw [List.map_append, List.map_reverse]; rfl)
    (lv_room (by rw [catS_ok]; exact hcat)) hd ⟨Nat.zero_le _, Nat.zero_le _⟩) hS (fun v h' H1 locs1 hp hP1 hw1 hv1 hS1 => ?_)
  exact kk v h' hp p l e s m args below meth c D cA tr B H1 locs1 ls hP1 hS1 hw1 hl (retL_st hv1 hsR)
theorem wt_throw (hcls : M.1.cls = RX11) (d0 : decode M.2.1 pc = .ok (.new 154, 3)) (d3 : decode M.2.1 (pc + 3) = .ok (.dup, 1)) (d4 : decode M.2.1 (pc + 4) = .ok (.invokespecial 156, 3)) (d7 : decode M.2.1 (pc + 7) = .ok (.athrow, 1)) : WPT al M k P pc lv [] P := by
  intro p l e s m args below meth c D cA tr B H locs ls hP hS hw hl hs
  obtain ⟨B0, hlt, hE, hex⟩ := B
  have hts := B0.2.2.2.2.2.2.1
  have hown : s.vm.findClass RX11 = some m.cls := by rw [← hcls]; exact B0.2.2.2.2.2.1
  refine vx_throw0 (names := nms) (cls := NSE) (A := Aw al tr) B0.1 B0.2.1 hlt hown (by decide +kernel) (by decide +kernel) (hts (.classLink RX11 154 NSE) (by decide +kernel)) (hts (.initialized NSE) (by decide +kernel))
    (vx_hat (B := nwL) (fun w hw => hts w (by revert w; decide +kernel)) (by decide +kernel) (hE.1.use args)) (by decide +kernel) hE.2.1 hE.2.2 hS (hl.1.trans B0.2.2.1.symm) d0 d3 d4 d7 (fun x hx => (hex x hx).elim) ?_ ?_ ?_ ?_ B0.2.2.2.2.1 ?_ ?_ (by omega) (by omega)
  · show 2 + 3 < k + 10; omega
  · show (List.map _ (List.map (trV tr) [])).sum + (13 * (2 + 1) + 42) ≤ 60 * k + 200
    simp only [List.map_nil, List.sum_nil]; omega
  · exact Nat.le_refl _
  · exact Nat.le_refl _
  · intro t hal hz hk
    refine ⟨(), trivial, ⟨rfl, fun j q hq => va_at.kept (hP j q hq) ?_⟩, Nat.le_trans hS.1 hz, fun q h1 h2 => by rw [hk q (Nat.lt_of_lt_of_le h1 hS.1)]; exact hS.2.1 q h1 h2⟩
    exact hk _ (vx_lt hP hq)
  · exact hS.2.2
theorem cx_wp {As : List AV} (hy : plainName M.1.cls = true) (hn : (lvin As).length ≤ M.2.2.1) (kk : WPT al M k h 0 (lve M.2.2.1 As) [] h) : Cx al M k As h := by
  intro l D cA tr hlt hinj hw hs
  refine vx_ofW (cc := M.2.1) (maxL := M.2.2.1) (ret := M.2.2.2) hy rfl ?_
  intro p e s m args below meth c s₁ B hml hex hv
  obtain ⟨⟨rfl, hP, hK, hX⟩, hE⟩ := hv
  have hts := atoms_spec (ws := wsM M) B.pre
  have hl := lv_entry (As.map (trV tr)) (n := M.2.2.1) (by rw [lvin_len]; exact hn)
  rw [lg_entry_eq]
  generalize (lg_sl (As.map (trV tr)) ++ List.replicate (M.2.2.1 - (lg_sl (As.map (trV tr))).length) Slot.unset).toArray = ls at hl ⊢
  refine kk p l e s m _ below meth c D cA tr ⟨⟨B.exec, B.bytes, hml, B.returns, B.notSynchronized, findClass_of_methodNamed B.named, fun w hw => hts w (List.mem_cons_of_mem _ hw), hK, hX, hinj⟩, hlt, hE, hex⟩ s.heap [] ls hP va_S.rf hw ⟨hl.1, hl.2.1, fun i v hv => ?_⟩ (fun v hv => by cases hv)
  unfold lve at hv
  have hlt : i < (lvin As).length := by
    rcases Nat.lt_or_ge i (lvin As).length with z | z
    · exact z
    · rw [List.getElem?_append_right z] at hv
      have := List.eq_of_mem_replicate (List.mem_of_getElem? hv)
      cases this
  rw [List.getElem?_append_left hlt] at hv
  obtain ⟨h1, h2⟩ := lvin_at (tr := tr) As 0 i v hv
  rw [Nat.zero_add] at h1
  exact ⟨hl.2.2 _ h1, hs v h2⟩
end OPT
