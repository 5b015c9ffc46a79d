/-! calls -/
def catS (st : List AV) : Nat := (st.map fun v => match v with
  | .inr (.inl _) => 2
  | _ => 1).sum
theorem catS_ok {tr : Ad → Nat} : ∀ (st : List AV), ((st.map (trV tr)).map fun v => v.category).sum = catS st
  | [] => rfl
  | .inl x :: st => by
    have ih := catS_ok (tr := tr) st
    unfold catS at ih ⊢
    simp only [List.map_cons, List.sum_cons, ih]
    rfl
  | .inr (.inl x) :: st => by
    have ih := catS_ok (tr := tr) st
    unfold catS at ih ⊢
    simp only [List.map_cons, List.sum_cons, ih]
    rfl
  | .inr (.inr x) :: st => by
    have ih := catS_ok (tr := tr) st
    unfold catS at ih ⊢
    simp only [List.map_cons, List.sum_cons, ih]
    rfl
def retL (ret : Option FieldType) (v : AV) (rest : List AV) : List AV := match ret with
  | none => rest
  | some _ => v :: rest
theorem retL_ok {tr : Ad → Nat} {ret : Option FieldType} {v : AV} {rest : List AV} : (ret.map fun _ => trV tr v).toList ++ rest.map (trV tr) = (retL ret v rest).map (trV tr) := by
  cases ret <;> rfl
theorem retL_st {al : List Ad} {ret : Option FieldType} {v : AV} {rest : List AV} (hv : wfV al v) (hs : stok al rest) : stok al (retL ret v rest) := by
  cases ret with
  | none => exact hs
  | some _ => exact sc hv hs
theorem pcx_blind {al : List Ad} {D : va_G} {cA : Nat → ClassId} {tr : Ad → Nat} {h : Hp} {As : List AV} : FrameBlind (PCx al D cA tr h As) := fun a U g mk q => by
  obtain ⟨q0, qP, qK, qS⟩ := q
  exact ⟨q0, qP, va_K.moved (u := U) (U := U.calling g mk a) (Vm.Alike.refl U.vm) qK, qS.call⟩
theorem gin (M : MT) (h : Cond.code M.1 M.2.1 M.2.2.1 M.2.2.2 ∈ gt) : GoodIn gt (wsM M) := fun w hw => by
  rcases List.mem_cons.mp hw with rfl | hw
  · exact ⟨h, gt_good h⟩
  · exact ⟨hw, gt_good hw⟩
section CALLS
variable {al : List Ad} {M : MT} {k : Nat} {P : AV → Hp → Prop} {pc : Nat} {lv : List (Option AV)} {st : List AV} {h : Hp}
/-- behind a call -/
theorem run_go {p : Program} {l : Launch} {e : Env} {R : Room} {s : State} {m : MethodId} {args : Array Value} {below : List Frame} {meth : Method} {c : Code} {H : Heap} {locs : List Loc} {Q : State → Prop} {ls : Array Slot} {st0 : List Value} {a : Array Value} {D : va_G} {cA : Nat → ClassId} {tr : Ad → Nat} {ret : Option FieldType} {P' : AV → Hp → Prop} {rest : List AV}
    (hr : va_Run p l e R s m args below meth c H locs 0 0 0 0 (F0 m pc ls st0) (rest.map (trV tr)) (QCx al D cA tr ret P' a) (Aw al tr)) (hS : va_S (Aw al tr) s.heap H locs)
    (kk : ∀ (v : AV) (h' : Hp) (H1 : Heap) (locs1 : List Loc), P' v h' → va_P D vwCl (wof cA tr h' al) H1 → hwf al h' → wfV al v → va_S (Aw al tr) s.heap H1 locs1 → W p l e R s m args below meth c H1 locs1 0 0 Q (F0 m (pc + 3) ls ((retL ret v rest).map (trV tr)))) : W p l e R s m args below meth c H locs 0 0 Q (F0 m pc ls st0) := by
  intro T hT X
  obtain ⟨v0, st₀, t, T', L, h0, X', hL, e1, e2, ⟨⟨v, h', hp, hv, hP, hw, hwv⟩, hz, hk⟩, st⟩ := hr T hT X
  cases hv
  rw [h0] at hz hk
  obtain ⟨t2, a1, b1⟩ := kk v h' T'.heap (locs ++ L) hp (by rw [e1]; exact hP) hw hwv
    ⟨Nat.le_trans hS.1 (by rw [e1]; exact hz), fun q h1 h2 => by rw [e1, hk q (Nat.lt_of_lt_of_le h1 hS.1) h2]; exact hS.2.1 q h1 h2, fun q hq => by
      rcases List.mem_append.mp hq with z | z
      · exact hS.2.2 q z
      · exact hL q z⟩ T' rfl X'
  rw [← retL_ok] at a1
  exact ⟨t2, st t2 a1, b1⟩
theorem wp_callS {idx n : Nat} {Mc : MT} {As rest : List AV} {P' : AV → Hp → Prop} (hd : decode M.2.1 pc = .ok (.invokestatic idx, 3)) (hn : As.length = n) (g1 : Cond.methodLink M.1.cls idx Mc.1 ∈ gt) (g2 : Cond.static Mc.1 ∈ gt) (g3 : Cond.initialized Mc.1.cls ∈ gt) (g4 : Cond.code Mc.1 Mc.2.1 Mc.2.2.1 Mc.2.2.2 ∈ gt)
    (hy : Mc.1.cls ≠ "java/lang/invoke/MethodHandle" ∧ Mc.1.cls ≠ "java/lang/invoke/VarHandle" ∧ (parseMethodDescriptor Mc.1.desc).map (fun d => d.parameters.length) = some n) (hm : Mc.2.2.1 ≤ 41) (hcat : catS rest ≤ 8)
    (hC : Ct al Mc k As h P') (kk : ∀ v h', P' v h' → WP al M (k + 1) P (pc + 3) lv (retL Mc.2.2.2 v rest) h') : WP al M (k + 1) P pc lv (As.reverse ++ rest) h := by
  intro p l e s m args below meth c D cA tr B H locs ls hP hS hw hl hs
  have hsA : stok al As := fun v hv => hs v (List.mem_append_left _ (List.mem_reverse.mpr hv))
  have hsR : stok al rest := fun v hv => hs v (List.mem_append_right _ hv)
  have hts := B.2.2.2.2.2.2.1
  refine run_go (va_runS (Ts := gt) (As := As.map (trV tr)) (rest := rest.map (trV tr)) ⟨B.1, B.2.1, B.2.2.1, B.2.2.2.2.2.1, hts⟩ (hC l D cA tr B.2.2.2.2.2.2.2.2.2 hw hsA)
    ⟨callB_of n hts (gin Mc g4) rfl rfl rfl (hts _ g3) (hts _ g1) hy ⟨Nat.le_refl _, by show 8 + (Mc.2.2.1 + 11) + 60 * k ≤ 60 * (k + 1); omega⟩, hts _ g2⟩
    ⟨pcx_blind, fun U hU hW => ⟨rfl, by rw [hU]; exact hP, va_K.moved hW.alike B.2.2.2.2.2.2.2.1, B.2.2.2.2.2.2.2.2.1.go hS hU hW⟩⟩ rfl (by rw [List.length_map]; exact hn) hl.1 (by show List.map (trV tr) (As.reverse ++ rest) = _; rw [List.map_append, List.map_reverse])
    (lv_room (by rw [catS_ok]; exact hcat)) hd ⟨Nat.le_refl _, Nat.le_refl _⟩) hS (fun v h' H1 locs1 hp hP1 hw1 hv1 hS1 => ?_)
  exact kk v h' hp p l e s m args below meth c D cA tr B H1 locs1 ls hP1 hS1 hw1 hl (retL_st hv1 hsR)
theorem wp_callV {idx n ci i : Nat} {q : vw_C} {fds : List Fdk} {Mc : MT} {As rest : List AV} {P' : AV → Hp → Prop} (hd : decode M.2.1 pc = .ok (.invokevirtual idx, 3)) (hn : As.length = n) (hq : vwCl[ci]? = some q) (hqc : q.1 = Mc.1.cls) (hsh : shp ci = .inl fds) (g1 : Cond.methodLink M.1.cls idx Mc.1 ∈ gt) (g2 : Cond.instanceMethod Mc.1 ∈ gt) (g5 : Cond.selects Mc.1.cls Mc.1 Mc.1 ∈ gt) (g3 : Cond.initialized Mc.1.cls ∈ gt) (g4 : Cond.code Mc.1 Mc.2.1 Mc.2.2.1 Mc.2.2.2 ∈ gt)
    (hy : Mc.1.cls ≠ "java/lang/invoke/MethodHandle" ∧ Mc.1.cls ≠ "java/lang/invoke/VarHandle" ∧ (parseMethodDescriptor Mc.1.desc).map (fun d => d.parameters.length) = some n) (hm : Mc.2.2.1 ≤ 41) (hcat : catS rest ≤ 8)
    (hC : Ct al Mc k (vR ci i :: As) h P') (kk : ∀ v h', P' v h' → WP al M (k + 1) P (pc + 3) lv (retL Mc.2.2.2 v rest) h') : WP al M (k + 1) P pc lv (As.reverse ++ vR ci i :: rest) h := by
  intro p l e s m args below meth c D cA tr B H locs ls hP hS hw hl hs
  have hsA : stok al (vR ci i :: As) := fun v hv => (List.mem_cons.mp hv).elim (fun z => hs v (List.mem_append_right _ (List.mem_cons.mpr (Or.inl z)))) (fun z => hs v (List.mem_append_left _ (List.mem_reverse.mpr z)))
  have hsR : stok al rest := fun v hv => hs v (List.mem_append_right _ (List.mem_cons_of_mem _ hv))
  have hts := B.2.2.2.2.2.2.1
  have ha : (ci, i) ∈ al := wf_obj (st0 hsA) (cl_90 hq)
  obtain ⟨j0, hj, hcell⟩ := obj_at (cA := cA) (tr := tr) (h := h) ha hsh
  have hrecv := va_recv B.2.2.2.2.2.2.2.1 hP hq hcell
  rw [hqc] at hrecv
  refine run_go (va_runV (Ts := gt) (C := Mc.1.cls) (b := tr (ci, i)) (As := As.map (trV tr)) (rest := rest.map (trV tr)) ⟨B.1, B.2.1, B.2.2.1, B.2.2.2.2.2.1, hts⟩ (hC l D cA tr B.2.2.2.2.2.2.2.2.2 hw hsA)
    ⟨callB_of n hts (gin Mc g4) rfl rfl rfl (hts _ g3) (hts _ g1) hy ⟨Nat.le_refl _, by show 8 + (Mc.2.2.1 + 11) + 60 * k ≤ 60 * (k + 1); omega⟩, hts _ g2, hts _ g5⟩
    ⟨pcx_blind, hrecv, fun U hU hW => ⟨rfl, by rw [hU]; exact hP, va_K.moved hW.alike B.2.2.2.2.2.2.2.1, B.2.2.2.2.2.2.2.2.1.go hS hU hW⟩⟩ rfl (by rw [List.length_map]; exact hn) hl.1 (by show List.map (trV tr) (As.reverse ++ vR ci i :: rest) = _; rw [List.map_append, List.map_reverse]; rfl)
    (lv_room (by rw [catS_ok]; exact hcat)) hd ⟨Nat.le_refl _, Nat.le_refl _⟩) hS (fun v h' H1 locs1 hp hP1 hw1 hv1 hS1 => ?_)
  exact kk v h' hp p l e s m args below meth c D cA tr B H1 locs1 ls hP1 hS1 hw1 hl (retL_st hv1 hsR)
/-! the entry -/
def lvin : List AV → List (Option AV)
  | [] => []
  | .inr (.inl x) :: vs => some (vL x) :: none :: lvin vs
  | v :: vs => some v :: lvin vs
theorem lvin_at {tr : Ad → Nat} : ∀ (As : List AV) (o i : Nat) (v : AV), (lvin As)[i]? = some (some v) → (o + i, trV tr v) ∈ lv_args o (As.map (trV tr)) ∧ v ∈ As
  | [], o, i, v, h => by simp [lvin] at h
  | .inl x :: vs, o, i, v, h => by
    cases i with
    | zero => cases h; exact ⟨List.mem_cons_self, List.mem_cons_self⟩
    | succ i =>
      obtain ⟨h1, h2⟩ := lvin_at vs (o + 1) i v h
      exact ⟨List.mem_cons_of_mem _ (by rw [show o + (i + 1) = o + 1 + i by omega]; exact h1), List.mem_cons_of_mem _ h2⟩
  | .inr (.inr x) :: vs, o, i, v, h => by
    cases i with
    | zero => cases h; exact ⟨List.mem_cons_self, List.mem_cons_self⟩
    | succ i =>
      obtain ⟨h1, h2⟩ := lvin_at vs (o + 1) i v h
      exact ⟨List.mem_cons_of_mem _ (by rw [show o + (i + 1) = o + 1 + i by omega]; exact h1), List.mem_cons_of_mem _ h2⟩
  | .inr (.inl x) :: vs, o, i, v, h => by
    match i, h with
    | 0, h => cases h; exact ⟨List.mem_cons_self, List.mem_cons_self⟩
    | 1, h => cases h
    | i + 2, h =>
      obtain ⟨h1, h2⟩ := lvin_at vs (o + 2) i v h
      exact ⟨List.mem_cons_of_mem _ (by rw [show o + (i + 2) = o + 2 + i by omega]; exact h1), List.mem_cons_of_mem _ h2⟩
theorem lvin_len {tr : Ad → Nat} : ∀ (As : List AV), (lg_sl (As.map (trV tr))).length = (lvin As).length
  | [] => rfl
  | .inl x :: vs => by
    have ih := lvin_len (tr := tr) vs
    unfold lg_sl at ih ⊢
    simp only [List.map_cons, List.flatMap_cons, List.length_append, ih, lvin, List.length_cons]
    simp [trV, Value.category]
    omega
  | .inr (.inr x) :: vs => by
    have ih := lvin_len (tr := tr) vs
    unfold lg_sl at ih ⊢
    simp only [List.map_cons, List.flatMap_cons, List.length_append, ih, lvin, List.length_cons]
    simp [trV, Value.category]
    omega
  | .inr (.inl x) :: vs => by
    have ih := lvin_len (tr := tr) vs
    unfold lg_sl at ih ⊢
    simp only [List.map_cons, List.flatMap_cons, List.length_append, ih, lvin, List.length_cons]
    simp [trV, Value.category]
    omega
def lve (n : Nat) (As : List AV) : List (Option AV) := lvin As ++ List.replicate (n - (lvin As).length) none
theorem ct_wp {As : List AV} (hy : plainName M.1.cls = true) (hn : (lvin As).length ≤ M.2.2.1) (kk : WP al M k P 0 (lve M.2.2.1 As) [] h) : Ct al M k As h P := by
  intro l D cA tr hinj hw hs
  refine Met.ofW (cc := M.2.1) (maxL := M.2.2.1) (ret := M.2.2.2) hy rfl ?_
  intro p e s m args below meth c s₁ B hml hv
  obtain ⟨rfl, hP, hK, hX⟩ := hv
  have hts := atoms_spec (ws := wsM M) B.pre
  have hl := lv_entry (As.map (trV tr)) (n := M.2.2.1) (by rw [lvin_len]; exact hn)
  rw [lg_entry_eq]
  generalize (lg_sl (As.map (trV tr)) ++ List.replicate (M.2.2.1 - (lg_sl (As.map (trV tr))).length) Slot.unset).toArray = ls at hl ⊢
  refine kk p l e s m _ below meth c D cA tr ⟨B.exec, B.bytes, hml, B.returns, B.notSynchronized, findClass_of_methodNamed B.named, fun w hw => hts w (List.mem_cons_of_mem _ hw), hK, hX, hinj⟩ s.heap [] ls hP va_S.rf hw ⟨hl.1, hl.2.1, fun i v hv => ?_⟩ (fun v hv => by cases hv)
  unfold lve at hv
  have hlt : i < (lvin As).length := by
    rcases Nat.lt_or_ge i (lvin As).length with z | z
    · exact z
    · rw [List.getElem?_append_right z] at hv
      have := List.eq_of_mem_replicate (List.mem_of_getElem? hv)
      cases this
  rw [List.getElem?_append_left hlt] at hv
  obtain ⟨h1, h2⟩ := lvin_at (tr := tr) As 0 i v hv
  rw [Nat.zero_add] at h1
  exact ⟨hl.2.2 _ h1, hs v h2⟩
end CALLS
