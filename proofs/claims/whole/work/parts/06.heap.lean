/-! what the tables say of the classes -/
theorem cin_of {C : String} {T : u_T} {N : Nat} (h : ∀ w ∈ u_ws C T N, w ∈ lw_tbl ∧ goodWord w = true) : ∀ w ∈ u_ws C T N, w ∈ gt := fun w hw => List.mem_filter.mpr (h w hw)
set_option maxRecDepth 100000 in
theorem cin_0 : ∀ w ∈ u_ws RX0 TX0 5, w ∈ lw_tbl ∧ goodWord w = true := by decide +kernel
set_option maxRecDepth 100000 in
theorem cin_1 : ∀ w ∈ u_ws RX1 TX1 2, w ∈ lw_tbl ∧ goodWord w = true := by decide +kernel
set_option maxRecDepth 100000 in
theorem cin_2 : ∀ w ∈ u_ws RX2 TX2 3, w ∈ lw_tbl ∧ goodWord w = true := by decide +kernel
set_option maxRecDepth 100000 in
theorem cin_3 : ∀ w ∈ u_ws RX3 TX3 5, w ∈ lw_tbl ∧ goodWord w = true := by decide +kernel
set_option maxRecDepth 100000 in
theorem cin_4 : ∀ w ∈ u_ws RX4 TX4 5, w ∈ lw_tbl ∧ goodWord w = true := by decide +kernel
set_option maxRecDepth 100000 in
theorem cin_5 : ∀ w ∈ u_ws RX5 TX5 2, w ∈ lw_tbl ∧ goodWord w = true := by decide +kernel
set_option maxRecDepth 100000 in
theorem cin_6 : ∀ w ∈ u_ws RX6 TX6 3, w ∈ lw_tbl ∧ goodWord w = true := by decide +kernel
set_option maxRecDepth 100000 in
theorem cin_7 : ∀ w ∈ u_ws RX7 TX7 11, w ∈ lw_tbl ∧ goodWord w = true := by decide +kernel
set_option maxRecDepth 100000 in
theorem cin_8 : ∀ w ∈ u_ws RX8 TX8 1, w ∈ lw_tbl ∧ goodWord w = true := by decide +kernel
set_option maxRecDepth 100000 in
theorem cin_9 : ∀ w ∈ u_ws RX9 TX9 4, w ∈ lw_tbl ∧ goodWord w = true := by decide +kernel
set_option maxRecDepth 100000 in
theorem cin_10 : ∀ w ∈ u_ws RX10 TX10 5, w ∈ lw_tbl ∧ goodWord w = true := by decide +kernel
set_option maxRecDepth 100000 in
theorem cin_11 : ∀ w ∈ u_ws RX11 TX11 12, w ∈ lw_tbl ∧ goodWord w = true := by decide +kernel
set_option maxRecDepth 100000 in
theorem cin_12 : ∀ w ∈ u_ws RX12 TX12 49, w ∈ lw_tbl ∧ goodWord w = true := by decide +kernel
/-- a class of the list: its words are known, its fields have types and different names -/
def ClF (q : vw_C) : Prop := (∀ w ∈ u_ws q.1 q.2.1 q.2.2, w ∈ gt) ∧ ∃ ty : Nat → FieldType, (∀ k, k < q.2.2 → parseFieldDescriptor (q.2.1 k).2.2.1 = some (ty k)) ∧ ∀ a, a < q.2.2 → ∀ b, b < q.2.2 → a ≠ b → (q.2.1 a).2.1 ≠ (q.2.1 b).2.1
theorem cl_ok : ∀ (ci : Nat) (q : vw_C), vwCl[ci]? = some q → ClF q := by
  intro ci q hq
  match ci, hq with
  | 0, hq => cases hq; exact ⟨cin_of cin_0, tyX0, tyX0_ok, nmX0⟩
  | 1, hq => cases hq; exact ⟨cin_of cin_1, tyX1, tyX1_ok, nmX1⟩
  | 2, hq => cases hq; exact ⟨cin_of cin_2, tyX2, tyX2_ok, nmX2⟩
  | 3, hq => cases hq; exact ⟨cin_of cin_3, tyX3, tyX3_ok, nmX3⟩
  | 4, hq => cases hq; exact ⟨cin_of cin_4, tyX4, tyX4_ok, nmX4⟩
  | 5, hq => cases hq; exact ⟨cin_of cin_5, tyX5, tyX5_ok, nmX5⟩
  | 6, hq => cases hq; exact ⟨cin_of cin_6, tyX6, tyX6_ok, nmX6⟩
  | 7, hq => cases hq; exact ⟨cin_of cin_7, tyX7, tyX7_ok, nmX7⟩
  | 8, hq => cases hq; exact ⟨cin_of cin_8, tyX8, tyX8_ok, nmX8⟩
  | 9, hq => cases hq; exact ⟨cin_of cin_9, tyX9, tyX9_ok, nmX9⟩
  | 10, hq => cases hq; exact ⟨cin_of cin_10, tyX10, tyX10_ok, nmX10⟩
  | 11, hq => cases hq; exact ⟨cin_of cin_11, tyX11, tyX11_ok, nmX11⟩
  | 12, hq => cases hq; exact ⟨cin_of cin_12, tyX12, tyX12_ok, nmX12⟩
  | n + 13, hq => simp [vwCl] at hq
theorem cl_90 {ci : Nat} {q : vw_C} (hq : vwCl[ci]? = some q) : ci < 90 := by
  have := (List.getElem?_eq_some_iff.mp hq).1
  have e : vwCl.length = 13 := rfl
  omega
theorem shp_90 {q : Aq} {kd : Nat} (h : shp kd = .inr q) : kd < 90 := by
  rcases Nat.lt_or_ge kd 90 with z | z
  · exact z
  · exfalso
    unfold shp at h
    rw [List.getD_eq_getElem?_getD, List.getElem?_eq_none (by show 61 ≤ kd; omega)] at h
    cases h
theorem rfv_nn {tr : Ad → Nat} {h : Hp} {a : Ad} {k : Nat} {fd : Fdk} (h4 : fd.1 = 4 → ¬ h.2.2 fd.2.1 = 7) : rfv tr h a k fd = trV tr (fval h a k fd) := by
  unfold rfv
  split
  next e => rw [if_neg (h4 e)]
  next => rfl
theorem fval_wf {al : List Ad} {h : Hp} {a : Ad} {k : Nat} {fds : List Fdk} {fd : Fdk} (hok : Okal al) (ha : a ∈ al) (hw : hwf al h) (e : shp a.1 = .inl fds) (hf : fd ∈ fds) (h4 : fd.1 = 4 → ¬ h.2.2 fd.2.1 = 7) (h5 : fd.1 ≤ 4) : wfV al (fval h a k fd) := by
  obtain ⟨w3, w4⟩ := hw a ha fds e fd hf
  have w2 := (hok.2.2 a ha).1 fds e fd hf
  obtain ⟨t, x, y, z⟩ := fd
  rcases (by omega : t = 0 ∨ t = 1 ∨ t = 2 ∨ t = 3 ∨ t = 4) with rfl | rfl | rfl | rfl | rfl
  · exact wfI
  · exact wfI
  · exact w2 rfl
  · intro b hb
    cases hb
    exact Or.inl (w3 rfl)
  · intro b hb
    cases hb
    rcases w4 rfl with q | q
    · exact absurd q (h4 rfl)
    · exact Or.inl q
theorem obj_at {al : List Ad} {cA : Nat → ClassId} {tr : Ad → Nat} {h : Hp} {a : Ad} {fds : List Fdk} (ha : a ∈ al) (e : shp a.1 = .inl fds) : ∃ i : Nat, al[i]? = some a ∧ (wof cA tr h al)[i]? = some (tr a, .inr (a.1, fds.mapIdx (fun k fd => rfv tr h a k fd))) := by
  obtain ⟨i, h1, h2⟩ := wof_in (cA := cA) (tr := tr) (h := h) ha
  exact ⟨i, h1, by rw [h2, cell_obj e]⟩
theorem arr_at {al : List Ad} {cA : Nat → ClassId} {tr : Ad → Nat} {h : Hp} {a : Ad} {q : Aq} (ha : a ∈ al) (e : shp a.1 = .inr q) : ∃ i : Nat, al[i]? = some a ∧ (wof cA tr h al)[i]? = some (tr a, .inl (cA q.1, aln q a.2, acon tr h a q)) := by
  obtain ⟨i, h1, h2⟩ := wof_in (cA := cA) (tr := tr) (h := h) ha
  exact ⟨i, h1, by rw [h2, cell_arr e]⟩
theorem wf_obj {al : List Ad} {ci i : Nat} (h : wfV al (vR ci i)) (h9 : ci < 90) : (ci, i) ∈ al := (h _ rfl).elim id (fun e => absurd e.1 (by show ¬ 90 ≤ ci; omega))
theorem cell_put {cA : Nat → ClassId} {tr : Ad → Nat} {h : Hp} {a : Ad} {fds : List Fdk} {fd : Fdk} {kf : Nat} {x : Int32} (e : shp a.1 = .inl fds) (hf : fds[kf]? = some fd) (h1 : fd.1 ≤ 1) : cellOf cA tr (sX h a.1 a.2 kf x) a = .inr (a.1, (fds.mapIdx (fun k fd => rfv tr h a k fd)).set kf (.int x)) := by
  rw [cell_obj e]
  congr 2
  apply List.ext_getElem?
  intro j
  have hl := (List.getElem?_eq_some_iff.mp hf).1
  by_cases hj : j = kf
  · subst hj
    rw [List.getElem?_set_self (by rw [List.length_mapIdx]; exact hl), List.getElem?_mapIdx, hf]
    obtain ⟨t, y, z, u⟩ := fd
    have e2 : (sX h a.1 a.2 j x).1 a.1 a.2 j = x := by
      unfold sX
      rw [sV_same]
      exact if_pos rfl
    rcases (by omega : t = 0 ∨ t = 1) with rfl | rfl
    · exact congrArg some (congrArg Value.int e2)
    · exact congrArg some (congrArg Value.int e2)
  · rw [List.getElem?_set_ne (Ne.symm hj), List.getElem?_mapIdx, List.getElem?_mapIdx]
    cases fds[j]? with
    | none => rfl
    | some fd2 => exact congrArg some (rfv_cong (by unfold sX; rw [sV_same]; exact if_neg hj) rfl)
section HEAP
variable {al : List Ad} {M : MT} {k : Nat} {P : AV → Hp → Prop} {pc : Nat} {lv : List (Option AV)} {st : List AV} {h : Hp}
theorem wp_getfield {idx ci kf i : Nat} {fd : Fdk} {fds : List Fdk} {q : vw_C} (hok : Okal al) (hd : decode M.2.1 pc = .ok (.getfield idx, 3)) (hq : vwCl[ci]? = some q) (hk : kf < q.2.2) (hg : Cond.fieldLink M.1.cls idx (q.2.1 kf).1 (q.2.1 kf).2.1 (q.2.1 kf).2.2.1 ∈ gt) (hsh : shp ci = .inl fds) (hf : fds[kf]? = some fd) (h5 : fd.1 ≤ 4) (h4 : fd.1 = 4 → ¬ h.2.2 fd.2.1 = 7) (kk : WP al M k P (pc + 3) lv (fval h (ci, i) kf fd :: st) h) : WP al M k P pc lv (vR ci i :: st) h := by
  intro p l e s m args below meth c D cA tr B H locs ls hP hS hw hl hs
  have ha : (ci, i) ∈ al := wf_obj (st0 hs) (cl_90 hq)
  obtain ⟨j, hj, hcell⟩ := obj_at (cA := cA) (tr := tr) (h := h) ha hsh
  have hv : (fds.mapIdx (fun k fd => rfv tr h (ci, i) k fd))[kf]? = some (trV tr (fval h (ci, i) kf fd)) := by
    rw [List.getElem?_mapIdx, hf]
    exact congrArg some (rfv_nn h4)
  exact va_get B.1 B.2.1 B.2.2.2.2.2.2.1 (cl_ok ci q hq).1 B.2.2.2.2.2.1 B.2.2.2.2.2.2.2.1 hP j hcell hq kf hk (B.2.2.2.2.2.2.1 _ hg) (fun _ z => z) hv hd (kk p l e s m args below meth c D cA tr B H locs ls hP hS hw hl (sc (fval_wf hok ha hw hsh (List.mem_of_getElem? hf) h4 h5) (st1 hs)))
theorem wp_putf {idx ci kf i : Nat} {fd : Fdk} {fds : List Fdk} {q : vw_C} {x : Int32} {ty : FieldType} (hok : Okal al) (hd : decode M.2.1 pc = .ok (.putfield idx, 3)) (hq : vwCl[ci]? = some q) (hk : kf < q.2.2) (hg : Cond.fieldLink M.1.cls idx (q.2.1 kf).1 (q.2.1 kf).2.1 (q.2.1 kf).2.2.1 ∈ gt) (hsh : shp ci = .inl fds) (hf : fds[kf]? = some fd) (h1 : fd.1 ≤ 1) (hfin : (q.2.1 kf).2.2.2 = false) (hpd : parseFieldDescriptor (q.2.1 kf).2.2.1 = some ty) (hn : narrow ty (.int x) = .int x) (hft : fits ty (.int x) = true) (kk : WP al M k P (pc + 3) lv st (sX h ci i kf x)) : WP al M k P pc lv (vI x :: vR ci i :: st) h := by
  intro p l e s m args below meth c D cA tr B H locs ls hP hS hw hl hs
  have ha : (ci, i) ∈ al := wf_obj (st0 (st1 hs)) (cl_90 hq)
  obtain ⟨j, hj, hcell⟩ := obj_at (cA := cA) (tr := tr) (h := h) ha hsh
  obtain ⟨c1, ty0, c2, c3⟩ := cl_ok ci q hq
  have hl2 : kf < (fds.mapIdx (fun k fd => rfv tr h (ci, i) k fd)).length := by rw [List.length_mapIdx]; exact (List.getElem?_eq_some_iff.mp hf).1
  refine va_put B.1 B.2.1 B.2.2.2.2.2.2.1 c1 ty0 c2 c3 B.2.2.2.2.2.1 B.2.2.2.2.2.2.2.1 hP (wof_D hok.1 B.2.2.2.2.2.2.2.2.2) hS j hcell hq kf hk (B.2.2.2.2.2.2.1 _ hg) (fun _ z => z) hfin hpd hn hft hl2 hd (fun H1 locs1 hP1 _ hS1 => ?_)
  have e1 := wof_set (cA := cA) (tr := tr) (h := h) (h' := sX h ci i kf x) hok.1 hj (cell_put (a := (ci, i)) (x := x) hsh hf h1) (fun b hb => cell_sV b hb)
  exact kk p l e s m args below meth c D cA tr B H1 locs1 ls (e1 ▸ hP1) hS1 (hwf_sV hw) hl (st2 hs)
end HEAP
