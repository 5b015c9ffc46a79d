theorem vp_arr {c : ClassId} {n : Nat} {f g : Nat → Option Nat} (h : ∀ i, i < n → f i = g i) : vp_cell c (n, .inr (.inr (.inr (.inr f)))) = vp_cell c (n, .inr (.inr (.inr (.inr g)))) := by
  rw [vp_cell_q, vp_cell_q]
  unfold arrV
  congr 1
  apply Array.ext
  · simp
  · intro i h1 h2
    simp only [Array.size_ofFn] at h1
    simp only [Array.getElem_ofFn, h i h1]
section
variable {ts : Nat → Nat → Nat} {M : MT} {p : Program} {l : Launch} {e : Env} {R : Room} {s : State} {m : MethodId} {args : Array Value} {below : List Frame} {meth : Method} {c : Code} {D : va_G} {cA : Nat → ClassId} {A : Nat → Prop} {Q : State → Prop} {pc : Nat} {lv : List (Nat × Value)} {st : List Value} {ws : va_W} {cells slots : Nat}
theorem wc_ws (ws' : va_W) (h : ws = ws') (kk : WC M p l e R s m args below meth c D A Q pc lv st ws' cells slots) : WC M p l e R s m args below meth c D A Q pc lv st ws cells slots := by
  subst h; exact kk
/-- the refs of an array, as another function has them -/
theorem wc_ref (q0 : Nat) (ws' : va_W) {a n : Nat} {x : ClassId} {f g : Nat → Option Nat} (he : ws[q0]? = some (a, .inl (x, n, .inr (.inr (.inr (.inr f)))))) (h : ∀ i, i < n → f i = g i) (hw : ws.set q0 (a, .inl (x, n, .inr (.inr (.inr (.inr g))))) = ws') (kk : WC M p l e R s m args below meth c D A Q pc lv st ws' cells slots) : WC M p l e R s m args below meth c D A Q pc lv st ws cells slots := by
  subst hw
  intro H locs ls hP hD hS hl
  refine kk H locs ls (hP.set hD he ?_ (fun _ _ => rfl)) (hD.set he) hS hl
  have h0 : H[a]? = some (vp_cell x (n, .inr (.inr (.inr (.inr f))))) := hP q0 _ he
  show H[a]? = some (vp_cell x (n, .inr (.inr (.inr (.inr g)))))
  rw [h0, vp_arr h]
theorem wc_sub (is : List Nat) (ws' : va_W) (hn : va_nd is = true) (h : is.map (fun i => ws[i]?) = ws'.map some) (kk : WC M p l e R s m args below meth c D A Q pc lv st ws' cells slots) : WC M p l e R s m args below meth c D A Q pc lv st ws cells slots := by
  intro H locs ls hP hD hS hl
  refine kk H locs ls (hP.sub is ?_) (hD.sub is hn h) hS hl
  have : is.filterMap (fun i => ws[i]?) = (is.map (fun i => ws[i]?)).filterMap id := by rw [List.filterMap_map]; rfl
  rw [this, h, List.filterMap_map]
  simp
theorem wc_ldc0 (K : KC ts M p s m args meth c D cA A) (hM : M.1.cls = RX11) (hd : decode M.2.1 pc = .ok (.ldc 25, 2)) (kk : WC M p l e R s m args below meth c D A Q (pc + 2) lv (.ref (ts 90 0) :: st) ws cells slots) : WC M p l e R s m args below meth c D A Q pc lv st ws cells slots :=
  fun H locs ls hP hD hS hl => va_ldcS K.1 K.2.1 (own := RX11) (by rw [← hM]; exact K.2.2.2.1) K.2.2.2.2.2.2.1.2.2.2.1 hd (kk H locs ls hP hD hS hl)
theorem wc_ldc1 (K : KC ts M p s m args meth c D cA A) (hM : M.1.cls = RX1) (hd : decode M.2.1 pc = .ok (.ldc 11, 2)) (kk : WC M p l e R s m args below meth c D A Q (pc + 2) lv (.ref (ts 90 1) :: st) ws cells slots) : WC M p l e R s m args below meth c D A Q pc lv st ws cells slots :=
  fun H locs ls hP hD hS hl => va_ldcS K.1 K.2.1 (own := RX1) (by rw [← hM]; exact K.2.2.2.1) K.2.2.2.2.2.2.1.2.2.2.2 hd (kk H locs ls hP hD hS hl)
end
set_option maxRecDepth 20000 in
theorem fs_0 : ∀ (ty : Nat → FieldType), (∀ k, k < 5 → parseFieldDescriptor (TX0 k).2.2.1 = some (ty k)) → ∀ j, j < 5 → defaultValue (ty j) = vp_V [.null, .null, .null, .null, .int 0] j := by
  intro ty h j hj
  have e : ty j = tyX0 j := Option.some.inj ((h j hj).symm.trans (tyX0_ok j hj))
  rw [e]
  clear e h
  revert j
  decide +kernel
set_option maxRecDepth 20000 in
theorem fs_1 : ∀ (ty : Nat → FieldType), (∀ k, k < 2 → parseFieldDescriptor (TX1 k).2.2.1 = some (ty k)) → ∀ j, j < 2 → defaultValue (ty j) = vp_V [.null, .int 0] j := by
  intro ty h j hj
  have e : ty j = tyX1 j := Option.some.inj ((h j hj).symm.trans (tyX1_ok j hj))
  rw [e]
  clear e h
  revert j
  decide +kernel
set_option maxRecDepth 20000 in
theorem fs_2 : ∀ (ty : Nat → FieldType), (∀ k, k < 3 → parseFieldDescriptor (TX2 k).2.2.1 = some (ty k)) → ∀ j, j < 3 → defaultValue (ty j) = vp_V [.null, .null, .int 0] j := by
  intro ty h j hj
  have e : ty j = tyX2 j := Option.some.inj ((h j hj).symm.trans (tyX2_ok j hj))
  rw [e]
  clear e h
  revert j
  decide +kernel
set_option maxRecDepth 20000 in
theorem fs_3 : ∀ (ty : Nat → FieldType), (∀ k, k < 5 → parseFieldDescriptor (TX3 k).2.2.1 = some (ty k)) → ∀ j, j < 5 → defaultValue (ty j) = vp_V [.null, .int 0, .null, .int 0, .int 0] j := by
  intro ty h j hj
  have e : ty j = tyX3 j := Option.some.inj ((h j hj).symm.trans (tyX3_ok j hj))
  rw [e]
  clear e h
  revert j
  decide +kernel
set_option maxRecDepth 20000 in
theorem fs_4 : ∀ (ty : Nat → FieldType), (∀ k, k < 5 → parseFieldDescriptor (TX4 k).2.2.1 = some (ty k)) → ∀ j, j < 5 → defaultValue (ty j) = vp_V [.null, .null, .int 0, .int 0, .int 0] j := by
  intro ty h j hj
  have e : ty j = tyX4 j := Option.some.inj ((h j hj).symm.trans (tyX4_ok j hj))
  rw [e]
  clear e h
  revert j
  decide +kernel
set_option maxRecDepth 20000 in
theorem fs_5 : ∀ (ty : Nat → FieldType), (∀ k, k < 2 → parseFieldDescriptor (TX5 k).2.2.1 = some (ty k)) → ∀ j, j < 2 → defaultValue (ty j) = vp_V [.null, .int 0] j := by
  intro ty h j hj
  have e : ty j = tyX5 j := Option.some.inj ((h j hj).symm.trans (tyX5_ok j hj))
  rw [e]
  clear e h
  revert j
  decide +kernel
set_option maxRecDepth 20000 in
theorem fs_6 : ∀ (ty : Nat → FieldType), (∀ k, k < 3 → parseFieldDescriptor (TX6 k).2.2.1 = some (ty k)) → ∀ j, j < 3 → defaultValue (ty j) = vp_V [.null, .null, .int 0] j := by
  intro ty h j hj
  have e : ty j = tyX6 j := Option.some.inj ((h j hj).symm.trans (tyX6_ok j hj))
  rw [e]
  clear e h
  revert j
  decide +kernel
set_option maxRecDepth 20000 in
theorem fs_7 : ∀ (ty : Nat → FieldType), (∀ k, k < 11 → parseFieldDescriptor (TX7 k).2.2.1 = some (ty k)) → ∀ j, j < 11 → defaultValue (ty j) = vp_V [.null, .null, .null, .null, .null, .null, .int 0, .int 0, .int 0, .int 0, .int 0] j := by
  intro ty h j hj
  have e : ty j = tyX7 j := Option.some.inj ((h j hj).symm.trans (tyX7_ok j hj))
  rw [e]
  clear e h
  revert j
  decide +kernel
set_option maxRecDepth 20000 in
theorem fs_8 : ∀ (ty : Nat → FieldType), (∀ k, k < 1 → parseFieldDescriptor (TX8 k).2.2.1 = some (ty k)) → ∀ j, j < 1 → defaultValue (ty j) = vp_V [.null] j := by
  intro ty h j hj
  have e : ty j = tyX8 j := Option.some.inj ((h j hj).symm.trans (tyX8_ok j hj))
  rw [e]
  clear e h
  revert j
  decide +kernel
set_option maxRecDepth 20000 in
theorem fs_9 : ∀ (ty : Nat → FieldType), (∀ k, k < 4 → parseFieldDescriptor (TX9 k).2.2.1 = some (ty k)) → ∀ j, j < 4 → defaultValue (ty j) = vp_V [.null, .int 0, .int 0, .int 0] j := by
  intro ty h j hj
  have e : ty j = tyX9 j := Option.some.inj ((h j hj).symm.trans (tyX9_ok j hj))
  rw [e]
  clear e h
  revert j
  decide +kernel
set_option maxRecDepth 20000 in
theorem fs_10 : ∀ (ty : Nat → FieldType), (∀ k, k < 5 → parseFieldDescriptor (TX10 k).2.2.1 = some (ty k)) → ∀ j, j < 5 → defaultValue (ty j) = vp_V [.null, .null, .null, .int 0, .int 0] j := by
  intro ty h j hj
  have e : ty j = tyX10 j := Option.some.inj ((h j hj).symm.trans (tyX10_ok j hj))
  rw [e]
  clear e h
  revert j
  decide +kernel
set_option maxRecDepth 20000 in
theorem fs_11 : ∀ (ty : Nat → FieldType), (∀ k, k < 12 → parseFieldDescriptor (TX11 k).2.2.1 = some (ty k)) → ∀ j, j < 12 → defaultValue (ty j) = vp_V [.null, .null, .null, .null, .null, .null, .null, .null, .null, .null, .null, .null] j := by
  intro ty h j hj
  have e : ty j = tyX11 j := Option.some.inj ((h j hj).symm.trans (tyX11_ok j hj))
  rw [e]
  clear e h
  revert j
  decide +kernel
set_option maxRecDepth 20000 in
theorem fs_12 : ∀ (ty : Nat → FieldType), (∀ k, k < 49 → parseFieldDescriptor (TX12 k).2.2.1 = some (ty k)) → ∀ j, j < 49 → defaultValue (ty j) = vp_V [.null, .int 0, .null, .int 0, .null, .int 0, .null, .int 0, .null, .int 0, .int 0, .null, .int 0, .int 0, .int 0, .int 0, .null, .null, .null, .int 0, .int 0, .null, .null, .int 0, .null, .null, .int 0, .null, .int 0, .int 0, .null, .null, .int 0, .int 0, .null, .int 0, .null, .int 0, .null, .null, .null, .null, .int 0, .null, .int 0, .int 0, .null, .null, .null] j := by
  intro ty h j hj
  have e : ty j = tyX12 j := Option.some.inj ((h j hj).symm.trans (tyX12_ok j hj))
  rw [e]
  clear e h
  revert j
  decide +kernel
def W_X8 (cA : Nat → ClassId) (a : Nat) (u : Nat → Nat) : va_W := [(a, .inr (8, [.ref (u 0)])), (u 0, .inl (cA 0, 47, .inl (fun _ => 0)))]
set_option maxHeartbeats 8000000 in
set_option maxRecDepth 20000 in
theorem n_X8 {ts : Nat → Nat → Nat} : CN ts mX8_init 1 1 47 [] 8 [.null] (W_X8) := by
  refine cn_wc (fun a => [(0, .ref a)]) (by decide) rfl (fun a => Nat.le_of_ble_eq_true rfl) (fun a => rfl) ?_ rfl
  intro p l e s m args below meth c D cA A Q a K hR
  refine wc_aload K 0 0 (by decide +kernel) rfl ?_
  refine wc_obj K 3 (by decide) (by decide +kernel) (by decide +kernel) ?_
  refine wc_aload K 0 0 (by decide +kernel) rfl ?_
  refine wc_bipush K 47 47 (by decide +kernel) rfl ?_
  refine wc_newi K 47 (by decide) rfl (by decide) (Nat.le_of_ble_eq_true rfl) (Nat.le_of_ble_eq_true rfl) (by decide +kernel) (fun q1 => ?_)
  refine wc_ws [(a, .inr (8, [.null])), (q1, .inl (cA 0, 47, .inl (fun _ => 0)))] rfl ?_
  refine wc_putF K 11 0 8 0 [(a, .inr (8, [.ref q1])), (q1, .inl (cA 0, 47, .inl (fun _ => 0)))] rfl rfl (by decide) (by decide +kernel) rfl rfl rfl rfl rfl (by simp) (by decide +kernel) rfl ?_
  exact hR 12 _ (fun i => ([q1] : List Nat).getD i 0) 1 47 (by decide +kernel) (by decide) (by decide)
def W_X9 (cA : Nat → ClassId) (a : Nat) (u : Nat → Nat) : va_W := [(a, .inr (9, [.ref (u 0), .int 0, .int 0, .int 0])), (u 0, .inl (cA 0, 80, .inl (fun _ => 0)))]
set_option maxHeartbeats 8000000 in
set_option maxRecDepth 20000 in
theorem n_X9 {ts : Nat → Nat → Nat} : CN ts mX9_init 1 1 80 [] 9 [.null, .int 0, .int 0, .int 0] (W_X9) := by
  refine cn_wc (fun a => [(0, .ref a)]) (by decide) rfl (fun a => Nat.le_of_ble_eq_true rfl) (fun a => rfl) ?_ rfl
  intro p l e s m args below meth c D cA A Q a K hR
  refine wc_aload K 0 0 (by decide +kernel) rfl ?_
  refine wc_obj K 3 (by decide) (by decide +kernel) (by decide +kernel) ?_
  refine wc_aload K 0 0 (by decide +kernel) rfl ?_
  refine wc_bipush K 80 80 (by decide +kernel) rfl ?_
  refine wc_newi K 80 (by decide) rfl (by decide) (Nat.le_of_ble_eq_true rfl) (Nat.le_of_ble_eq_true rfl) (by decide +kernel) (fun q1 => ?_)
  refine wc_ws [(a, .inr (9, [.null, .int 0, .int 0, .int 0])), (q1, .inl (cA 0, 80, .inl (fun _ => 0)))] rfl ?_
  refine wc_putF K 11 0 9 0 [(a, .inr (9, [.ref q1, .int 0, .int 0, .int 0])), (q1, .inl (cA 0, 80, .inl (fun _ => 0)))] rfl rfl (by decide) (by decide +kernel) rfl rfl rfl rfl rfl (by simp) (by decide +kernel) rfl ?_
  exact hR 12 _ (fun i => ([q1] : List Nat).getD i 0) 1 80 (by decide +kernel) (by decide) (by decide)
def W_X5 (cA : Nat → ClassId) (a : Nat) (u : Nat → Nat) : va_W := [(a, .inr (5, [.ref (u 0), .int 0])), (u 0, .inl (cA 1, 8, .inr (.inl (fun _ => 0))))]
set_option maxHeartbeats 8000000 in
set_option maxRecDepth 20000 in
theorem n_X5 {ts : Nat → Nat → Nat} : CN ts mX5_init 1 1 8 [] 5 [.null, .int 0] (W_X5) := by
  refine cn_wc (fun a => [(0, .ref a)]) (by decide) rfl (fun a => Nat.le_of_ble_eq_true rfl) (fun a => rfl) ?_ rfl
  intro p l e s m args below meth c D cA A Q a K hR
  refine wc_aload K 0 0 (by decide +kernel) rfl ?_
  refine wc_obj K 3 (by decide) (by decide +kernel) (by decide +kernel) ?_
  refine wc_aload K 0 0 (by decide +kernel) rfl ?_
  refine wc_bipush K 8 8 (by decide +kernel) rfl ?_
  refine wc_newl K 8 (by decide) rfl (by decide) (Nat.le_of_ble_eq_true rfl) (Nat.le_of_ble_eq_true rfl) (by decide +kernel) (fun q1 => ?_)
  refine wc_ws [(a, .inr (5, [.null, .int 0])), (q1, .inl (cA 1, 8, .inr (.inl (fun _ => 0))))] rfl ?_
  refine wc_putF K 9 0 5 0 [(a, .inr (5, [.ref q1, .int 0])), (q1, .inl (cA 1, 8, .inr (.inl (fun _ => 0))))] rfl rfl (by decide) (by decide +kernel) rfl rfl rfl rfl rfl (by simp) (by decide +kernel) rfl ?_
  exact hR 12 _ (fun i => ([q1] : List Nat).getD i 0) 1 8 (by decide +kernel) (by decide) (by decide)
def W_X6 (cA : Nat → ClassId) (a : Nat) (u : Nat → Nat) : va_W := [(a, .inr (6, [.ref (u 0), .ref (u 1), .int 0])), (u 0, .inl (cA 0, 40, .inl (fun _ => 0))), (u 1, .inl (cA 0, 40, .inl (fun _ => 0)))]
set_option maxHeartbeats 8000000 in
set_option maxRecDepth 20000 in
theorem n_X6 {ts : Nat → Nat → Nat} : CN ts mX6_init 1 2 80 [] 6 [.null, .null, .int 0] (W_X6) := by
  refine cn_wc (fun a => [(0, .ref a)]) (by decide) rfl (fun a => Nat.le_of_ble_eq_true rfl) (fun a => rfl) ?_ rfl
  intro p l e s m args below meth c D cA A Q a K hR
  refine wc_aload K 0 0 (by decide +kernel) rfl ?_
  refine wc_obj K 3 (by decide) (by decide +kernel) (by decide +kernel) ?_
  refine wc_aload K 0 0 (by decide +kernel) rfl ?_
  refine wc_bipush K 40 40 (by decide +kernel) rfl ?_
  refine wc_newi K 40 (by decide) rfl (by decide) (Nat.le_of_ble_eq_true rfl) (Nat.le_of_ble_eq_true rfl) (by decide +kernel) (fun q1 => ?_)
  refine wc_ws [(a, .inr (6, [.null, .null, .int 0])), (q1, .inl (cA 0, 40, .inl (fun _ => 0)))] rfl ?_
  refine wc_putF K 11 0 6 0 [(a, .inr (6, [.ref q1, .null, .int 0])), (q1, .inl (cA 0, 40, .inl (fun _ => 0)))] rfl rfl (by decide) (by decide +kernel) rfl rfl rfl rfl rfl (by simp) (by decide +kernel) rfl ?_
  refine wc_aload K 0 0 (by decide +kernel) rfl ?_
  refine wc_bipush K 40 40 (by decide +kernel) rfl ?_
  refine wc_newi K 40 (by decide) rfl (by decide) (Nat.le_of_ble_eq_true rfl) (Nat.le_of_ble_eq_true rfl) (by decide +kernel) (fun q2 => ?_)
  refine wc_ws [(a, .inr (6, [.ref q1, .null, .int 0])), (q1, .inl (cA 0, 40, .inl (fun _ => 0))), (q2, .inl (cA 0, 40, .inl (fun _ => 0)))] rfl ?_
  refine wc_putF K 15 0 6 1 [(a, .inr (6, [.ref q1, .ref q2, .int 0])), (q1, .inl (cA 0, 40, .inl (fun _ => 0))), (q2, .inl (cA 0, 40, .inl (fun _ => 0)))] rfl rfl (by decide) (by decide +kernel) rfl rfl rfl rfl rfl (by simp) (by decide +kernel) rfl ?_
  exact hR 20 _ (fun i => ([q1, q2] : List Nat).getD i 0) 2 80 (by decide +kernel) (by decide) (by decide)
def W_X2 (cA : Nat → ClassId) (a : Nat) (u : Nat → Nat) : va_W := [(a, .inr (2, [.ref (u 0), .ref (u 1), .int 0])), (u 0, .inl (cA 0, 12, .inl (fun _ => 0))), (u 1, .inl (cA 0, 12, .inl (fun _ => 0)))]
set_option maxHeartbeats 8000000 in
set_option maxRecDepth 20000 in
theorem n_X2 {ts : Nat → Nat → Nat} : CN ts mX2_init 1 2 24 [] 2 [.null, .null, .int 0] (W_X2) := by
  refine cn_wc (fun a => [(0, .ref a)]) (by decide) rfl (fun a => Nat.le_of_ble_eq_true rfl) (fun a => rfl) ?_ rfl
  intro p l e s m args below meth c D cA A Q a K hR
  refine wc_aload K 0 0 (by decide +kernel) rfl ?_
  refine wc_obj K 3 (by decide) (by decide +kernel) (by decide +kernel) ?_
  refine wc_aload K 0 0 (by decide +kernel) rfl ?_
  refine wc_bipush K 12 12 (by decide +kernel) rfl ?_
  refine wc_newi K 12 (by decide) rfl (by decide) (Nat.le_of_ble_eq_true rfl) (Nat.le_of_ble_eq_true rfl) (by decide +kernel) (fun q1 => ?_)
  refine wc_ws [(a, .inr (2, [.null, .null, .int 0])), (q1, .inl (cA 0, 12, .inl (fun _ => 0)))] rfl ?_
  refine wc_putF K 11 0 2 0 [(a, .inr (2, [.ref q1, .null, .int 0])), (q1, .inl (cA 0, 12, .inl (fun _ => 0)))] rfl rfl (by decide) (by decide +kernel) rfl rfl rfl rfl rfl (by simp) (by decide +kernel) rfl ?_
  refine wc_aload K 0 0 (by decide +kernel) rfl ?_
  refine wc_bipush K 12 12 (by decide +kernel) rfl ?_
  refine wc_newi K 12 (by decide) rfl (by decide) (Nat.le_of_ble_eq_true rfl) (Nat.le_of_ble_eq_true rfl) (by decide +kernel) (fun q2 => ?_)
  refine wc_ws [(a, .inr (2, [.ref q1, .null, .int 0])), (q1, .inl (cA 0, 12, .inl (fun _ => 0))), (q2, .inl (cA 0, 12, .inl (fun _ => 0)))] rfl ?_
  refine wc_putF K 15 0 2 1 [(a, .inr (2, [.ref q1, .ref q2, .int 0])), (q1, .inl (cA 0, 12, .inl (fun _ => 0))), (q2, .inl (cA 0, 12, .inl (fun _ => 0)))] rfl rfl (by decide) (by decide +kernel) rfl rfl rfl rfl rfl (by simp) (by decide +kernel) rfl ?_
  exact hR 20 _ (fun i => ([q1, q2] : List Nat).getD i 0) 2 24 (by decide +kernel) (by decide) (by decide)
def W_X10 (cA : Nat → ClassId) (a : Nat) (u : Nat → Nat) : va_W := [(a, .inr (10, [.ref (u 0), .ref (u 1), .ref (u 2), .int 0, .int 0])), (u 0, .inl (cA 0, 8, .inl (fun _ => 0))), (u 1, .inl (cA 0, 256, .inl (fun _ => 0))), (u 2, .inl (cA 0, 256, .inl (fun _ => 0)))]
set_option maxHeartbeats 8000000 in
set_option maxRecDepth 20000 in
theorem n_X10 {ts : Nat → Nat → Nat} : CN ts mX10_init 1 3 520 [] 10 [.null, .null, .null, .int 0, .int 0] (W_X10) := by
  refine cn_wc (fun a => [(0, .ref a)]) (by decide) rfl (fun a => Nat.le_of_ble_eq_true rfl) (fun a => rfl) ?_ rfl
  intro p l e s m args below meth c D cA A Q a K hR
  refine wc_aload K 0 0 (by decide +kernel) rfl ?_
  refine wc_obj K 3 (by decide) (by decide +kernel) (by decide +kernel) ?_
  refine wc_aload K 0 0 (by decide +kernel) rfl ?_
  refine wc_bipush K 8 8 (by decide +kernel) rfl ?_
  refine wc_newi K 8 (by decide) rfl (by decide) (Nat.le_of_ble_eq_true rfl) (Nat.le_of_ble_eq_true rfl) (by decide +kernel) (fun q1 => ?_)
  refine wc_ws [(a, .inr (10, [.null, .null, .null, .int 0, .int 0])), (q1, .inl (cA 0, 8, .inl (fun _ => 0)))] rfl ?_
  refine wc_putF K 9 0 10 0 [(a, .inr (10, [.ref q1, .null, .null, .int 0, .int 0])), (q1, .inl (cA 0, 8, .inl (fun _ => 0)))] rfl rfl (by decide) (by decide +kernel) rfl rfl rfl rfl rfl (by simp) (by decide +kernel) rfl ?_
  refine wc_aload K 0 0 (by decide +kernel) rfl ?_
  refine wc_sipush K 256 256 (by decide +kernel) rfl ?_
  refine wc_newi K 256 (by decide) rfl (by decide) (Nat.le_of_ble_eq_true rfl) (Nat.le_of_ble_eq_true rfl) (by decide +kernel) (fun q2 => ?_)
  refine wc_ws [(a, .inr (10, [.ref q1, .null, .null, .int 0, .int 0])), (q1, .inl (cA 0, 8, .inl (fun _ => 0))), (q2, .inl (cA 0, 256, .inl (fun _ => 0)))] rfl ?_
  refine wc_putF K 15 0 10 1 [(a, .inr (10, [.ref q1, .ref q2, .null, .int 0, .int 0])), (q1, .inl (cA 0, 8, .inl (fun _ => 0))), (q2, .inl (cA 0, 256, .inl (fun _ => 0)))] rfl rfl (by decide) (by decide +kernel) rfl rfl rfl rfl rfl (by simp) (by decide +kernel) rfl ?_
  refine wc_aload K 0 0 (by decide +kernel) rfl ?_
  refine wc_sipush K 256 256 (by decide +kernel) rfl ?_
  refine wc_newi K 256 (by decide) rfl (by decide) (Nat.le_of_ble_eq_true rfl) (Nat.le_of_ble_eq_true rfl) (by decide +kernel) (fun q3 => ?_)
  refine wc_ws [(a, .inr (10, [.ref q1, .ref q2, .null, .int 0, .int 0])), (q1, .inl (cA 0, 8, .inl (fun _ => 0))), (q2, .inl (cA 0, 256, .inl (fun _ => 0))), (q3, .inl (cA 0, 256, .inl (fun _ => 0)))] rfl ?_
  refine wc_putF K 18 0 10 2 [(a, .inr (10, [.ref q1, .ref q2, .ref q3, .int 0, .int 0])), (q1, .inl (cA 0, 8, .inl (fun _ => 0))), (q2, .inl (cA 0, 256, .inl (fun _ => 0))), (q3, .inl (cA 0, 256, .inl (fun _ => 0)))] rfl rfl (by decide) (by decide +kernel) rfl rfl rfl rfl rfl (by simp) (by decide +kernel) rfl ?_
  exact hR 30 _ (fun i => ([q1, q2, q3] : List Nat).getD i 0) 3 520 (by decide +kernel) (by decide) (by decide)
def W_X3 (x0 : Nat) (x1 : Int32) (cA : Nat → ClassId) (a : Nat) (u : Nat → Nat) : va_W := [(a, .inr (3, [.ref x0, .int x1, .ref (u 0), .int 0, .int 0])), (u 0, .inl (cA 5, 5, .inr (.inr (.inr (.inr (fun i => some (u (1 + i)))))))), (u 1, .inl (cA 0, 8, .inl (fun _ => 0))), (u 2, .inl (cA 0, 8, .inl (fun _ => 0))), (u 3, .inl (cA 0, 8, .inl (fun _ => 0))), (u 4, .inl (cA 0, 8, .inl (fun _ => 0))), (u 5, .inl (cA 0, 8, .inl (fun _ => 0)))]
set_option maxHeartbeats 8000000 in
set_option maxRecDepth 20000 in
theorem n_X3 {ts : Nat → Nat → Nat} (x0 : Nat) (x1 : Int32) : CN ts mX3_init 1 6 45 [.ref x0, .int x1] 3 [.null, .int 0, .null, .int 0, .int 0] (W_X3 x0 x1) := by
  refine cn_wc (fun a => [(0, .ref a), (1, .ref x0), (2, .int x1)]) (by decide) rfl (fun a => Nat.le_of_ble_eq_true rfl) (fun a => rfl) ?_ rfl
  intro p l e s m args below meth c D cA A Q a K hR
  refine wc_aload K 0 0 (by decide +kernel) rfl ?_
  refine wc_obj K 3 (by decide) (by decide +kernel) (by decide +kernel) ?_
  refine wc_aload K 0 0 (by decide +kernel) rfl ?_
  refine wc_iconst K 5 5 (by decide +kernel) rfl ?_
  refine wc_bipush K 8 8 (by decide +kernel) rfl ?_
  refine wc_mna K 11 5 8 (by decide +kernel) (by decide) (by decide) rfl rfl (by decide) (by decide) (Nat.le_of_ble_eq_true rfl) (Nat.le_of_ble_eq_true rfl) (by decide +kernel) (fun q1 r2 => ?_)
  refine wc_ws [(a, .inr (3, [.null, .int 0, .null, .int 0, .int 0])), (q1, .inl (cA 5, 5, .inr (.inr (.inr (.inr (fun i => if i < 5 then some (r2 i) else none)))))), (r2 0, .inl (cA 0, 8, .inl (fun _ => 0))), (r2 1, .inl (cA 0, 8, .inl (fun _ => 0))), (r2 2, .inl (cA 0, 8, .inl (fun _ => 0))), (r2 3, .inl (cA 0, 8, .inl (fun _ => 0))), (r2 4, .inl (cA 0, 8, .inl (fun _ => 0)))] rfl ?_
  refine wc_putF K 13 0 3 2 [(a, .inr (3, [.null, .int 0, .ref q1, .int 0, .int 0])), (q1, .inl (cA 5, 5, .inr (.inr (.inr (.inr (fun i => if i < 5 then some (r2 i) else none)))))), (r2 0, .inl (cA 0, 8, .inl (fun _ => 0))), (r2 1, .inl (cA 0, 8, .inl (fun _ => 0))), (r2 2, .inl (cA 0, 8, .inl (fun _ => 0))), (r2 3, .inl (cA 0, 8, .inl (fun _ => 0))), (r2 4, .inl (cA 0, 8, .inl (fun _ => 0)))] rfl rfl (by decide) (by decide +kernel) rfl rfl rfl rfl rfl (by simp) (by decide +kernel) rfl ?_
  refine wc_aload K 0 0 (by decide +kernel) rfl ?_
  refine wc_aload K 1 1 (by decide +kernel) rfl ?_
  refine wc_putF K 16 0 3 0 [(a, .inr (3, [.ref x0, .int 0, .ref q1, .int 0, .int 0])), (q1, .inl (cA 5, 5, .inr (.inr (.inr (.inr (fun i => if i < 5 then some (r2 i) else none)))))), (r2 0, .inl (cA 0, 8, .inl (fun _ => 0))), (r2 1, .inl (cA 0, 8, .inl (fun _ => 0))), (r2 2, .inl (cA 0, 8, .inl (fun _ => 0))), (r2 3, .inl (cA 0, 8, .inl (fun _ => 0))), (r2 4, .inl (cA 0, 8, .inl (fun _ => 0)))] rfl rfl (by decide) (by decide +kernel) rfl rfl rfl rfl rfl (by simp) (by decide +kernel) rfl ?_
  refine wc_aload K 0 0 (by decide +kernel) rfl ?_
  refine wc_iload K 2 2 (by decide +kernel) rfl ?_
  refine wc_putF K 20 0 3 1 [(a, .inr (3, [.ref x0, .int x1, .ref q1, .int 0, .int 0])), (q1, .inl (cA 5, 5, .inr (.inr (.inr (.inr (fun i => if i < 5 then some (r2 i) else none)))))), (r2 0, .inl (cA 0, 8, .inl (fun _ => 0))), (r2 1, .inl (cA 0, 8, .inl (fun _ => 0))), (r2 2, .inl (cA 0, 8, .inl (fun _ => 0))), (r2 3, .inl (cA 0, 8, .inl (fun _ => 0))), (r2 4, .inl (cA 0, 8, .inl (fun _ => 0)))] rfl rfl (by decide) (by decide +kernel) rfl rfl rfl rfl rfl (by simp) (by decide +kernel) rfl ?_
  refine wc_ref 1 [(a, .inr (3, [.ref x0, .int x1, .ref q1, .int 0, .int 0])), (q1, .inl (cA 5, 5, .inr (.inr (.inr (.inr (fun i => some (([q1, r2 0, r2 1, r2 2, r2 3, r2 4] : List Nat).getD (1 + i) 0))))))), (r2 0, .inl (cA 0, 8, .inl (fun _ => 0))), (r2 1, .inl (cA 0, 8, .inl (fun _ => 0))), (r2 2, .inl (cA 0, 8, .inl (fun _ => 0))), (r2 3, .inl (cA 0, 8, .inl (fun _ => 0))), (r2 4, .inl (cA 0, 8, .inl (fun _ => 0)))] rfl (fun i hi => by
    match i, hi with
    | 0, _ => rfl
    | 1, _ => rfl
    | 2, _ => rfl
    | 3, _ => rfl
    | 4, _ => rfl
    | i + 5, hi => exact absurd hi (by omega)) rfl ?_
  exact hR 25 _ (fun i => ([q1, r2 0, r2 1, r2 2, r2 3, r2 4] : List Nat).getD i 0) 6 45 (by decide +kernel) (by decide) (by decide)
def W_X0 (x0 : Nat) (x1 : Nat) (cA : Nat → ClassId) (a : Nat) (u : Nat → Nat) : va_W := [(a, .inr (0, [.ref x0, .ref x1, .ref (u 0), .ref (u 3), .int 5])), (u 0, .inr (6, [.ref (u 1), .ref (u 2), .int 0])), (u 1, .inl (cA 0, 40, .inl (fun _ => 0))), (u 2, .inl (cA 0, 40, .inl (fun _ => 0))), (u 3, .inr (6, [.ref (u 4), .ref (u 5), .int 0])), (u 4, .inl (cA 0, 40, .inl (fun _ => 0))), (u 5, .inl (cA 0, 40, .inl (fun _ => 0)))]
set_option maxHeartbeats 8000000 in
set_option maxRecDepth 20000 in
theorem n_X0 {ts : Nat → Nat → Nat} (x0 : Nat) (x1 : Nat) : CN ts mX0_init 2 6 166 [.ref x0, .ref x1] 0 [.null, .null, .null, .null, .int 0] (W_X0 x0 x1) := by
  refine cn_wc (fun a => [(0, .ref a), (1, .ref x0), (2, .ref x1)]) (by decide) rfl (fun a => Nat.le_of_ble_eq_true rfl) (fun a => rfl) ?_ rfl
  intro p l e s m args below meth c D cA A Q a K hR
  refine wc_aload K 0 0 (by decide +kernel) rfl ?_
  refine wc_obj K 3 (by decide) (by decide +kernel) (by decide +kernel) ?_
  refine wc_aload K 0 0 (by decide +kernel) rfl ?_
  refine wc_new K 9 6 [.null, .null, .int 0] rfl (by decide +kernel) (by decide +kernel) (by decide +kernel) fs_6 (Nat.le_of_ble_eq_true rfl) (Nat.le_of_ble_eq_true rfl) (by decide +kernel) (fun q1 => ?_)
  refine wc_dup K (by decide +kernel) ?_
  refine wc_ctor K 11 (As := []) (st := [.ref q1, .ref a]) (W0 := [(a, .inr (0, [.null, .null, .null, .null, .int 0]))]) (n := 0) (n_X6) rfl rfl (by decide +kernel) (by decide +kernel) (by decide +kernel) (by decide +kernel) (by decide +kernel) (by decide) ⟨Nat.le_of_ble_eq_true rfl, Nat.le_of_ble_eq_true rfl⟩ (Nat.le_of_ble_eq_true rfl) (by decide +kernel) rfl (fun u2 => ?_)
  refine wc_ws [(a, .inr (0, [.null, .null, .null, .null, .int 0])), (q1, .inr (6, [.ref (u2 0), .ref (u2 1), .int 0])), (u2 0, .inl (cA 0, 40, .inl (fun _ => 0))), (u2 1, .inl (cA 0, 40, .inl (fun _ => 0)))] rfl ?_
  refine wc_put K 12 0 0 2 [(a, .inr (0, [.null, .null, .ref q1, .null, .int 0])), (q1, .inr (6, [.ref (u2 0), .ref (u2 1), .int 0])), (u2 0, .inl (cA 0, 40, .inl (fun _ => 0))), (u2 1, .inl (cA 0, 40, .inl (fun _ => 0)))] rfl rfl (by decide) (by decide +kernel) rfl rfl rfl rfl (by simp) (by decide +kernel) rfl ?_
  refine wc_aload K 0 0 (by decide +kernel) rfl ?_
  refine wc_new K 9 6 [.null, .null, .int 0] rfl (by decide +kernel) (by decide +kernel) (by decide +kernel) fs_6 (Nat.le_of_ble_eq_true rfl) (Nat.le_of_ble_eq_true rfl) (by decide +kernel) (fun q3 => ?_)
  refine wc_dup K (by decide +kernel) ?_
  refine wc_ctor K 11 (As := []) (st := [.ref q3, .ref a]) (W0 := [(a, .inr (0, [.null, .null, .ref q1, .null, .int 0])), (q1, .inr (6, [.ref (u2 0), .ref (u2 1), .int 0])), (u2 0, .inl (cA 0, 40, .inl (fun _ => 0))), (u2 1, .inl (cA 0, 40, .inl (fun _ => 0)))]) (n := 0) (n_X6) rfl rfl (by decide +kernel) (by decide +kernel) (by decide +kernel) (by decide +kernel) (by decide +kernel) (by decide) ⟨Nat.le_of_ble_eq_true rfl, Nat.le_of_ble_eq_true rfl⟩ (Nat.le_of_ble_eq_true rfl) (by decide +kernel) rfl (fun u4 => ?_)
  refine wc_ws [(a, .inr (0, [.null, .null, .ref q1, .null, .int 0])), (q1, .inr (6, [.ref (u2 0), .ref (u2 1), .int 0])), (u2 0, .inl (cA 0, 40, .inl (fun _ => 0))), (u2 1, .inl (cA 0, 40, .inl (fun _ => 0))), (q3, .inr (6, [.ref (u4 0), .ref (u4 1), .int 0])), (u4 0, .inl (cA 0, 40, .inl (fun _ => 0))), (u4 1, .inl (cA 0, 40, .inl (fun _ => 0)))] rfl ?_
  refine wc_put K 18 0 0 3 [(a, .inr (0, [.null, .null, .ref q1, .ref q3, .int 0])), (q1, .inr (6, [.ref (u2 0), .ref (u2 1), .int 0])), (u2 0, .inl (cA 0, 40, .inl (fun _ => 0))), (u2 1, .inl (cA 0, 40, .inl (fun _ => 0))), (q3, .inr (6, [.ref (u4 0), .ref (u4 1), .int 0])), (u4 0, .inl (cA 0, 40, .inl (fun _ => 0))), (u4 1, .inl (cA 0, 40, .inl (fun _ => 0)))] rfl rfl (by decide) (by decide +kernel) rfl rfl rfl rfl (by simp) (by decide +kernel) rfl ?_
  refine wc_aload K 0 0 (by decide +kernel) rfl ?_
  refine wc_iconst K 5 5 (by decide +kernel) rfl ?_
  refine wc_put K 21 0 0 4 [(a, .inr (0, [.null, .null, .ref q1, .ref q3, .int 5])), (q1, .inr (6, [.ref (u2 0), .ref (u2 1), .int 0])), (u2 0, .inl (cA 0, 40, .inl (fun _ => 0))), (u2 1, .inl (cA 0, 40, .inl (fun _ => 0))), (q3, .inr (6, [.ref (u4 0), .ref (u4 1), .int 0])), (u4 0, .inl (cA 0, 40, .inl (fun _ => 0))), (u4 1, .inl (cA 0, 40, .inl (fun _ => 0)))] rfl rfl (by decide) (by decide +kernel) rfl rfl rfl rfl (by simp) (by decide +kernel) rfl ?_
  refine wc_aload K 0 0 (by decide +kernel) rfl ?_
  refine wc_aload K 1 1 (by decide +kernel) rfl ?_
  refine wc_putF K 25 0 0 0 [(a, .inr (0, [.ref x0, .null, .ref q1, .ref q3, .int 5])), (q1, .inr (6, [.ref (u2 0), .ref (u2 1), .int 0])), (u2 0, .inl (cA 0, 40, .inl (fun _ => 0))), (u2 1, .inl (cA 0, 40, .inl (fun _ => 0))), (q3, .inr (6, [.ref (u4 0), .ref (u4 1), .int 0])), (u4 0, .inl (cA 0, 40, .inl (fun _ => 0))), (u4 1, .inl (cA 0, 40, .inl (fun _ => 0)))] rfl rfl (by decide) (by decide +kernel) rfl rfl rfl rfl rfl (by simp) (by decide +kernel) rfl ?_
  refine wc_aload K 0 0 (by decide +kernel) rfl ?_
  refine wc_aload K 2 2 (by decide +kernel) rfl ?_
  refine wc_putF K 29 0 0 1 [(a, .inr (0, [.ref x0, .ref x1, .ref q1, .ref q3, .int 5])), (q1, .inr (6, [.ref (u2 0), .ref (u2 1), .int 0])), (u2 0, .inl (cA 0, 40, .inl (fun _ => 0))), (u2 1, .inl (cA 0, 40, .inl (fun _ => 0))), (q3, .inr (6, [.ref (u4 0), .ref (u4 1), .int 0])), (u4 0, .inl (cA 0, 40, .inl (fun _ => 0))), (u4 1, .inl (cA 0, 40, .inl (fun _ => 0)))] rfl rfl (by decide) (by decide +kernel) rfl rfl rfl rfl rfl (by simp) (by decide +kernel) rfl ?_
  exact hR 41 _ (fun i => ([q1, u2 0, u2 1, q3, u4 0, u4 1] : List Nat).getD i 0) 6 166 (by decide +kernel) (by decide) (by decide)
def W_X4 (cA : Nat → ClassId) (a : Nat) (u : Nat → Nat) : va_W := [(a, .inr (4, [.ref (u 0), .ref (u 1), .int 0, .int 0, .int 0])), (u 0, .inl (cA 4, 12, .inr (.inr (.inr (.inr (fun i => some (u (2 + 2 * i)))))))), (u 1, .inl (cA 4, 2, .inr (.inr (.inr (.inr (fun i => some (u (26 + 2 * i)))))))), (u 2, .inr (8, [.ref (u 3)])), (u 3, .inl (cA 0, 47, .inl (fun _ => 0))), (u 4, .inr (8, [.ref (u 5)])), (u 5, .inl (cA 0, 47, .inl (fun _ => 0))), (u 6, .inr (8, [.ref (u 7)])), (u 7, .inl (cA 0, 47, .inl (fun _ => 0))), (u 8, .inr (8, [.ref (u 9)])), (u 9, .inl (cA 0, 47, .inl (fun _ => 0))), (u 10, .inr (8, [.ref (u 11)])), (u 11, .inl (cA 0, 47, .inl (fun _ => 0))), (u 12, .inr (8, [.ref (u 13)])), (u 13, .inl (cA 0, 47, .inl (fun _ => 0))), (u 14, .inr (8, [.ref (u 15)])), (u 15, .inl (cA 0, 47, .inl (fun _ => 0))), (u 16, .inr (8, [.ref (u 17)])), (u 17, .inl (cA 0, 47, .inl (fun _ => 0))), (u 18, .inr (8, [.ref (u 19)])), (u 19, .inl (cA 0, 47, .inl (fun _ => 0))), (u 20, .inr (8, [.ref (u 21)])), (u 21, .inl (cA 0, 47, .inl (fun _ => 0))), (u 22, .inr (8, [.ref (u 23)])), (u 23, .inl (cA 0, 47, .inl (fun _ => 0))), (u 24, .inr (8, [.ref (u 25)])), (u 25, .inl (cA 0, 47, .inl (fun _ => 0))), (u 26, .inr (8, [.ref (u 27)])), (u 27, .inl (cA 0, 47, .inl (fun _ => 0))), (u 28, .inr (8, [.ref (u 29)])), (u 29, .inl (cA 0, 47, .inl (fun _ => 0)))]
set_option maxHeartbeats 8000000 in
set_option maxRecDepth 20000 in
theorem n_X4 {ts : Nat → Nat → Nat} : CN ts mX4_init 2 30 686 [] 4 [.null, .null, .int 0, .int 0, .int 0] (W_X4) := by
  refine cn_wc (fun a => [(0, .ref a)]) (by decide) rfl (fun a => Nat.le_of_ble_eq_true rfl) (fun a => rfl) ?_ rfl
  intro p l e s m args below meth c D cA A Q a K hR
  refine wc_aload K 0 0 (by decide +kernel) rfl ?_
  refine wc_obj K 1 (by decide) (by decide +kernel) (by decide +kernel) ?_
  refine wc_aload K 0 0 (by decide +kernel) rfl ?_
  refine wc_bipush K 12 12 (by decide +kernel) rfl ?_
  refine wc_newq K 9 12 (by decide +kernel) (by decide) rfl (by decide) (Nat.le_of_ble_eq_true rfl) (Nat.le_of_ble_eq_true rfl) (by decide +kernel) (fun q1 => ?_)
  refine wc_ws [(a, .inr (4, [.null, .null, .int 0, .int 0, .int 0])), (q1, .inl (cA 4, 12, .inr (.inr (.inr (.inr (fun _ => none))))))] rfl ?_
  refine wc_putF K 11 0 4 0 [(a, .inr (4, [.ref q1, .null, .int 0, .int 0, .int 0])), (q1, .inl (cA 4, 12, .inr (.inr (.inr (.inr (fun _ => none))))))] rfl rfl (by decide) (by decide +kernel) rfl rfl rfl rfl rfl (by simp) (by decide +kernel) rfl ?_
  refine wc_aload K 0 0 (by decide +kernel) rfl ?_
  refine wc_iconst K 2 2 (by decide +kernel) rfl ?_
  refine wc_newq K 9 2 (by decide +kernel) (by decide) rfl (by decide) (Nat.le_of_ble_eq_true rfl) (Nat.le_of_ble_eq_true rfl) (by decide +kernel) (fun q2 => ?_)
  refine wc_ws [(a, .inr (4, [.ref q1, .null, .int 0, .int 0, .int 0])), (q1, .inl (cA 4, 12, .inr (.inr (.inr (.inr (fun _ => none)))))), (q2, .inl (cA 4, 2, .inr (.inr (.inr (.inr (fun _ => none))))))] rfl ?_
  refine wc_putF K 15 0 4 1 [(a, .inr (4, [.ref q1, .ref q2, .int 0, .int 0, .int 0])), (q1, .inl (cA 4, 12, .inr (.inr (.inr (.inr (fun _ => none)))))), (q2, .inl (cA 4, 2, .inr (.inr (.inr (.inr (fun _ => none))))))] rfl rfl (by decide) (by decide +kernel) rfl rfl rfl rfl rfl (by simp) (by decide +kernel) rfl ?_
  refine wc_iconst K 0 0 (by decide +kernel) rfl ?_
  refine wc_istore K 1 [(1, .int 0), (0, .ref a)] (by decide +kernel) (by decide) rfl ?_
  refine wc_iload K 1 0 (by decide +kernel) rfl ?_
  refine wc_bipush K 12 12 (by decide +kernel) rfl ?_
  refine wc_geN K (22) 48 (by decide +kernel) (by decide) (by decide) ?_
  refine wc_aload K 0 1 (by decide +kernel) rfl ?_
  refine wc_get K 11 0 4 0 rfl rfl (by decide) (by decide +kernel) rfl (by decide +kernel) ?_
  refine wc_iload K 1 0 (by decide +kernel) rfl ?_
  refine wc_new K 9 8 [.null] rfl (by decide +kernel) (by decide +kernel) (by decide +kernel) fs_8 (Nat.le_of_ble_eq_true rfl) (Nat.le_of_ble_eq_true rfl) (by decide +kernel) (fun q3 => ?_)
  refine wc_dup K (by decide +kernel) ?_
  refine wc_ctor K 18 (As := []) (st := [.ref q3, .int 0, .ref q1]) (W0 := [(a, .inr (4, [.ref q1, .ref q2, .int 0, .int 0, .int 0])), (q1, .inl (cA 4, 12, .inr (.inr (.inr (.inr (fun _ => none)))))), (q2, .inl (cA 4, 2, .inr (.inr (.inr (.inr (fun _ => none))))))]) (n := 0) (n_X8) rfl rfl (by decide +kernel) (by decide +kernel) (by decide +kernel) (by decide +kernel) (by decide +kernel) (by decide) ⟨Nat.le_of_ble_eq_true rfl, Nat.le_of_ble_eq_true rfl⟩ (Nat.le_of_ble_eq_true rfl) (by decide +kernel) rfl (fun u4 => ?_)
  refine wc_ws [(a, .inr (4, [.ref q1, .ref q2, .int 0, .int 0, .int 0])), (q1, .inl (cA 4, 12, .inr (.inr (.inr (.inr (fun _ => none)))))), (q2, .inl (cA 4, 2, .inr (.inr (.inr (.inr (fun _ => none)))))), (q3, .inr (8, [.ref (u4 0)])), (u4 0, .inl (cA 0, 47, .inl (fun _ => 0)))] rfl ?_
  refine wc_aast K 1 3 [(a, .inr (4, [.ref q1, .ref q2, .int 0, .int 0, .int 0])), (q1, .inl (cA 4, 12, .inr (.inr (.inr (.inr (va_up (fun _ => none) 0 (some q3))))))), (q2, .inl (cA 4, 2, .inr (.inr (.inr (.inr (fun _ => none)))))), (q3, .inr (8, [.ref (u4 0)])), (u4 0, .inl (cA 0, 47, .inl (fun _ => 0)))] rfl rfl (ix1 (j := 0) 12 (by omega)) (by decide +kernel) rfl ?_
  refine wc_iinc K 1 0 [(1, .int 1), (0, .ref a)] (v := 1) (by decide +kernel) rfl rfl (by decide) rfl ?_
  refine wc_goto K (-22) 23 (by decide +kernel) (by decide) ?_
  refine wc_iload K 1 0 (by decide +kernel) rfl ?_
  refine wc_bipush K 12 12 (by decide +kernel) rfl ?_
  refine wc_geN K (22) 48 (by decide +kernel) (by decide) (by decide) ?_
  refine wc_aload K 0 1 (by decide +kernel) rfl ?_
  refine wc_get K 11 0 4 0 rfl rfl (by decide) (by decide +kernel) rfl (by decide +kernel) ?_
  refine wc_iload K 1 0 (by decide +kernel) rfl ?_
  refine wc_new K 9 8 [.null] rfl (by decide +kernel) (by decide +kernel) (by decide +kernel) fs_8 (Nat.le_of_ble_eq_true rfl) (Nat.le_of_ble_eq_true rfl) (by decide +kernel) (fun q5 => ?_)
  refine wc_dup K (by decide +kernel) ?_
  refine wc_ctor K 18 (As := []) (st := [.ref q5, .int 1, .ref q1]) (W0 := [(a, .inr (4, [.ref q1, .ref q2, .int 0, .int 0, .int 0])), (q1, .inl (cA 4, 12, .inr (.inr (.inr (.inr (va_up (fun _ => none) 0 (some q3))))))), (q2, .inl (cA 4, 2, .inr (.inr (.inr (.inr (fun _ => none)))))), (q3, .inr (8, [.ref (u4 0)])), (u4 0, .inl (cA 0, 47, .inl (fun _ => 0)))]) (n := 0) (n_X8) rfl rfl (by decide +kernel) (by decide +kernel) (by decide +kernel) (by decide +kernel) (by decide +kernel) (by decide) ⟨Nat.le_of_ble_eq_true rfl, Nat.le_of_ble_eq_true rfl⟩ (Nat.le_of_ble_eq_true rfl) (by decide +kernel) rfl (fun u6 => ?_)
  refine wc_ws [(a, .inr (4, [.ref q1, .ref q2, .int 0, .int 0, .int 0])), (q1, .inl (cA 4, 12, .inr (.inr (.inr (.inr (va_up (fun _ => none) 0 (some q3))))))), (q2, .inl (cA 4, 2, .inr (.inr (.inr (.inr (fun _ => none)))))), (q3, .inr (8, [.ref (u4 0)])), (u4 0, .inl (cA 0, 47, .inl (fun _ => 0))), (q5, .inr (8, [.ref (u6 0)])), (u6 0, .inl (cA 0, 47, .inl (fun _ => 0)))] rfl ?_
  refine wc_aast K 1 5 [(a, .inr (4, [.ref q1, .ref q2, .int 0, .int 0, .int 0])), (q1, .inl (cA 4, 12, .inr (.inr (.inr (.inr (va_up (va_up (fun _ => none) 0 (some q3)) 1 (some q5))))))), (q2, .inl (cA 4, 2, .inr (.inr (.inr (.inr (fun _ => none)))))), (q3, .inr (8, [.ref (u4 0)])), (u4 0, .inl (cA 0, 47, .inl (fun _ => 0))), (q5, .inr (8, [.ref (u6 0)])), (u6 0, .inl (cA 0, 47, .inl (fun _ => 0)))] rfl rfl (ix1 (j := 1) 12 (by omega)) (by decide +kernel) rfl ?_
  refine wc_iinc K 1 0 [(1, .int 2), (0, .ref a)] (v := 2) (by decide +kernel) rfl rfl (by decide) rfl ?_
  refine wc_goto K (-22) 23 (by decide +kernel) (by decide) ?_
  refine wc_iload K 1 0 (by decide +kernel) rfl ?_
  refine wc_bipush K 12 12 (by decide +kernel) rfl ?_
  refine wc_geN K (22) 48 (by decide +kernel) (by decide) (by decide) ?_
  refine wc_aload K 0 1 (by decide +kernel) rfl ?_
  refine wc_get K 11 0 4 0 rfl rfl (by decide) (by decide +kernel) rfl (by decide +kernel) ?_
  refine wc_iload K 1 0 (by decide +kernel) rfl ?_
  refine wc_new K 9 8 [.null] rfl (by decide +kernel) (by decide +kernel) (by decide +kernel) fs_8 (Nat.le_of_ble_eq_true rfl) (Nat.le_of_ble_eq_true rfl) (by decide +kernel) (fun q7 => ?_)
  refine wc_dup K (by decide +kernel) ?_
  refine wc_ctor K 18 (As := []) (st := [.ref q7, .int 2, .ref q1]) (W0 := [(a, .inr (4, [.ref q1, .ref q2, .int 0, .int 0, .int 0])), (q1, .inl (cA 4, 12, .inr (.inr (.inr (.inr (va_up (va_up (fun _ => none) 0 (some q3)) 1 (some q5))))))), (q2, .inl (cA 4, 2, .inr (.inr (.inr (.inr (fun _ => none)))))), (q3, .inr (8, [.ref (u4 0)])), (u4 0, .inl (cA 0, 47, .inl (fun _ => 0))), (q5, .inr (8, [.ref (u6 0)])), (u6 0, .inl (cA 0, 47, .inl (fun _ => 0)))]) (n := 0) (n_X8) rfl rfl (by decide +kernel) (by decide +kernel) (by decide +kernel) (by decide +kernel) (by decide +kernel) (by decide) ⟨Nat.le_of_ble_eq_true rfl, Nat.le_of_ble_eq_true rfl⟩ (Nat.le_of_ble_eq_true rfl) (by decide +kernel) rfl (fun u8 => ?_)
  refine wc_ws [(a, .inr (4, [.ref q1, .ref q2, .int 0, .int 0, .int 0])), (q1, .inl (cA 4, 12, .inr (.inr (.inr (.inr (va_up (va_up (fun _ => none) 0 (some q3)) 1 (some q5))))))), (q2, .inl (cA 4, 2, .inr (.inr (.inr (.inr (fun _ => none)))))), (q3, .inr (8, [.ref (u4 0)])), (u4 0, .inl (cA 0, 47, .inl (fun _ => 0))), (q5, .inr (8, [.ref (u6 0)])), (u6 0, .inl (cA 0, 47, .inl (fun _ => 0))), (q7, .inr (8, [.ref (u8 0)])), (u8 0, .inl (cA 0, 47, .inl (fun _ => 0)))] rfl ?_
  refine wc_aast K 1 7 [(a, .inr (4, [.ref q1, .ref q2, .int 0, .int 0, .int 0])), (q1, .inl (cA 4, 12, .inr (.inr (.inr (.inr (va_up (va_up (va_up (fun _ => none) 0 (some q3)) 1 (some q5)) 2 (some q7))))))), (q2, .inl (cA 4, 2, .inr (.inr (.inr (.inr (fun _ => none)))))), (q3, .inr (8, [.ref (u4 0)])), (u4 0, .inl (cA 0, 47, .inl (fun _ => 0))), (q5, .inr (8, [.ref (u6 0)])), (u6 0, .inl (cA 0, 47, .inl (fun _ => 0))), (q7, .inr (8, [.ref (u8 0)])), (u8 0, .inl (cA 0, 47, .inl (fun _ => 0)))] rfl rfl (ix1 (j := 2) 12 (by omega)) (by decide +kernel) rfl ?_
  refine wc_iinc K 1 0 [(1, .int 3), (0, .ref a)] (v := 3) (by decide +kernel) rfl rfl (by decide) rfl ?_
  refine wc_goto K (-22) 23 (by decide +kernel) (by decide) ?_
  refine wc_iload K 1 0 (by decide +kernel) rfl ?_
  refine wc_bipush K 12 12 (by decide +kernel) rfl ?_
  refine wc_geN K (22) 48 (by decide +kernel) (by decide) (by decide) ?_
  refine wc_aload K 0 1 (by decide +kernel) rfl ?_
  refine wc_get K 11 0 4 0 rfl rfl (by decide) (by decide +kernel) rfl (by decide +kernel) ?_
  refine wc_iload K 1 0 (by decide +kernel) rfl ?_
  refine wc_new K 9 8 [.null] rfl (by decide +kernel) (by decide +kernel) (by decide +kernel) fs_8 (Nat.le_of_ble_eq_true rfl) (Nat.le_of_ble_eq_true rfl) (by decide +kernel) (fun q9 => ?_)
  refine wc_dup K (by decide +kernel) ?_
  refine wc_ctor K 18 (As := []) (st := [.ref q9, .int 3, .ref q1]) (W0 := [(a, .inr (4, [.ref q1, .ref q2, .int 0, .int 0, .int 0])), (q1, .inl (cA 4, 12, .inr (.inr (.inr (.inr (va_up (va_up (va_up (fun _ => none) 0 (some q3)) 1 (some q5)) 2 (some q7))))))), (q2, .inl (cA 4, 2, .inr (.inr (.inr (.inr (fun _ => none)))))), (q3, .inr (8, [.ref (u4 0)])), (u4 0, .inl (cA 0, 47, .inl (fun _ => 0))), (q5, .inr (8, [.ref (u6 0)])), (u6 0, .inl (cA 0, 47, .inl (fun _ => 0))), (q7, .inr (8, [.ref (u8 0)])), (u8 0, .inl (cA 0, 47, .inl (fun _ => 0)))]) (n := 0) (n_X8) rfl rfl (by decide +kernel) (by decide +kernel) (by decide +kernel) (by decide +kernel) (by decide +kernel) (by decide) ⟨Nat.le_of_ble_eq_true rfl, Nat.le_of_ble_eq_true rfl⟩ (Nat.le_of_ble_eq_true rfl) (by decide +kernel) rfl (fun u10 => ?_)
  refine wc_ws [(a, .inr (4, [.ref q1, .ref q2, .int 0, .int 0, .int 0])), (q1, .inl (cA 4, 12, .inr (.inr (.inr (.inr (va_up (va_up (va_up (fun _ => none) 0 (some q3)) 1 (some q5)) 2 (some q7))))))), (q2, .inl (cA 4, 2, .inr (.inr (.inr (.inr (fun _ => none)))))), (q3, .inr (8, [.ref (u4 0)])), (u4 0, .inl (cA 0, 47, .inl (fun _ => 0))), (q5, .inr (8, [.ref (u6 0)])), (u6 0, .inl (cA 0, 47, .inl (fun _ => 0))), (q7, .inr (8, [.ref (u8 0)])), (u8 0, .inl (cA 0, 47, .inl (fun _ => 0))), (q9, .inr (8, [.ref (u10 0)])), (u10 0, .inl (cA 0, 47, .inl (fun _ => 0)))] rfl ?_
  refine wc_aast K 1 9 [(a, .inr (4, [.ref q1, .ref q2, .int 0, .int 0, .int 0])), (q1, .inl (cA 4, 12, .inr (.inr (.inr (.inr (va_up (va_up (va_up (va_up (fun _ => none) 0 (some q3)) 1 (some q5)) 2 (some q7)) 3 (some q9))))))), (q2, .inl (cA 4, 2, .inr (.inr (.inr (.inr (fun _ => none)))))), (q3, .inr (8, [.ref (u4 0)])), (u4 0, .inl (cA 0, 47, .inl (fun _ => 0))), (q5, .inr (8, [.ref (u6 0)])), (u6 0, .inl (cA 0, 47, .inl (fun _ => 0))), (q7, .inr (8, [.ref (u8 0)])), (u8 0, .inl (cA 0, 47, .inl (fun _ => 0))), (q9, .inr (8, [.ref (u10 0)])), (u10 0, .inl (cA 0, 47, .inl (fun _ => 0)))] rfl rfl (ix1 (j := 3) 12 (by omega)) (by decide +kernel) rfl ?_
  refine wc_iinc K 1 0 [(1, .int 4), (0, .ref a)] (v := 4) (by decide +kernel) rfl rfl (by decide) rfl ?_
  refine wc_goto K (-22) 23 (by decide +kernel) (by decide) ?_
  refine wc_iload K 1 0 (by decide +kernel) rfl ?_
  refine wc_bipush K 12 12 (by decide +kernel) rfl ?_
  refine wc_geN K (22) 48 (by decide +kernel) (by decide) (by decide) ?_
  refine wc_aload K 0 1 (by decide +kernel) rfl ?_
  refine wc_get K 11 0 4 0 rfl rfl (by decide) (by decide +kernel) rfl (by decide +kernel) ?_
  refine wc_iload K 1 0 (by decide +kernel) rfl ?_
  refine wc_new K 9 8 [.null] rfl (by decide +kernel) (by decide +kernel) (by decide +kernel) fs_8 (Nat.le_of_ble_eq_true rfl) (Nat.le_of_ble_eq_true rfl) (by decide +kernel) (fun q11 => ?_)
  refine wc_dup K (by decide +kernel) ?_
  refine wc_ctor K 18 (As := []) (st := [.ref q11, .int 4, .ref q1]) (W0 := [(a, .inr (4, [.ref q1, .ref q2, .int 0, .int 0, .int 0])), (q1, .inl (cA 4, 12, .inr (.inr (.inr (.inr (va_up (va_up (va_up (va_up (fun _ => none) 0 (some q3)) 1 (some q5)) 2 (some q7)) 3 (some q9))))))), (q2, .inl (cA 4, 2, .inr (.inr (.inr (.inr (fun _ => none)))))), (q3, .inr (8, [.ref (u4 0)])), (u4 0, .inl (cA 0, 47, .inl (fun _ => 0))), (q5, .inr (8, [.ref (u6 0)])), (u6 0, .inl (cA 0, 47, .inl (fun _ => 0))), (q7, .inr (8, [.ref (u8 0)])), (u8 0, .inl (cA 0, 47, .inl (fun _ => 0))), (q9, .inr (8, [.ref (u10 0)])), (u10 0, .inl (cA 0, 47, .inl (fun _ => 0)))]) (n := 0) (n_X8) rfl rfl (by decide +kernel) (by decide +kernel) (by decide +kernel) (by decide +kernel) (by decide +kernel) (by decide) ⟨Nat.le_of_ble_eq_true rfl, Nat.le_of_ble_eq_true rfl⟩ (Nat.le_of_ble_eq_true rfl) (by decide +kernel) rfl (fun u12 => ?_)
  refine wc_ws [(a, .inr (4, [.ref q1, .ref q2, .int 0, .int 0, .int 0])), (q1, .inl (cA 4, 12, .inr (.inr (.inr (.inr (va_up (va_up (va_up (va_up (fun _ => none) 0 (some q3)) 1 (some q5)) 2 (some q7)) 3 (some q9))))))), (q2, .inl (cA 4, 2, .inr (.inr (.inr (.inr (fun _ => none)))))), (q3, .inr (8, [.ref (u4 0)])), (u4 0, .inl (cA 0, 47, .inl (fun _ => 0))), (q5, .inr (8, [.ref (u6 0)])), (u6 0, .inl (cA 0, 47, .inl (fun _ => 0))), (q7, .inr (8, [.ref (u8 0)])), (u8 0, .inl (cA 0, 47, .inl (fun _ => 0))), (q9, .inr (8, [.ref (u10 0)])), (u10 0, .inl (cA 0, 47, .inl (fun _ => 0))), (q11, .inr (8, [.ref (u12 0)])), (u12 0, .inl (cA 0, 47, .inl (fun _ => 0)))] rfl ?_
  refine wc_aast K 1 11 [(a, .inr (4, [.ref q1, .ref q2, .int 0, .int 0, .int 0])), (q1, .inl (cA 4, 12, .inr (.inr (.inr (.inr (va_up (va_up (va_up (va_up (va_up (fun _ => none) 0 (some q3)) 1 (some q5)) 2 (some q7)) 3 (some q9)) 4 (some q11))))))), (q2, .inl (cA 4, 2, .inr (.inr (.inr (.inr (fun _ => none)))))), (q3, .inr (8, [.ref (u4 0)])), (u4 0, .inl (cA 0, 47, .inl (fun _ => 0))), (q5, .inr (8, [.ref (u6 0)])), (u6 0, .inl (cA 0, 47, .inl (fun _ => 0))), (q7, .inr (8, [.ref (u8 0)])), (u8 0, .inl (cA 0, 47, .inl (fun _ => 0))), (q9, .inr (8, [.ref (u10 0)])), (u10 0, .inl (cA 0, 47, .inl (fun _ => 0))), (q11, .inr (8, [.ref (u12 0)])), (u12 0, .inl (cA 0, 47, .inl (fun _ => 0)))] rfl rfl (ix1 (j := 4) 12 (by omega)) (by decide +kernel) rfl ?_
  refine wc_iinc K 1 0 [(1, .int 5), (0, .ref a)] (v := 5) (by decide +kernel) rfl rfl (by decide) rfl ?_
  refine wc_goto K (-22) 23 (by decide +kernel) (by decide) ?_
  refine wc_iload K 1 0 (by decide +kernel) rfl ?_
  refine wc_bipush K 12 12 (by decide +kernel) rfl ?_
  refine wc_geN K (22) 48 (by decide +kernel) (by decide) (by decide) ?_
  refine wc_aload K 0 1 (by decide +kernel) rfl ?_
  refine wc_get K 11 0 4 0 rfl rfl (by decide) (by decide +kernel) rfl (by decide +kernel) ?_
  refine wc_iload K 1 0 (by decide +kernel) rfl ?_
  refine wc_new K 9 8 [.null] rfl (by decide +kernel) (by decide +kernel) (by decide +kernel) fs_8 (Nat.le_of_ble_eq_true rfl) (Nat.le_of_ble_eq_true rfl) (by decide +kernel) (fun q13 => ?_)
  refine wc_dup K (by decide +kernel) ?_
  refine wc_ctor K 18 (As := []) (st := [.ref q13, .int 5, .ref q1]) (W0 := [(a, .inr (4, [.ref q1, .ref q2, .int 0, .int 0, .int 0])), (q1, .inl (cA 4, 12, .inr (.inr (.inr (.inr (va_up (va_up (va_up (va_up (va_up (fun _ => none) 0 (some q3)) 1 (some q5)) 2 (some q7)) 3 (some q9)) 4 (some q11))))))), (q2, .inl (cA 4, 2, .inr (.inr (.inr (.inr (fun _ => none)))))), (q3, .inr (8, [.ref (u4 0)])), (u4 0, .inl (cA 0, 47, .inl (fun _ => 0))), (q5, .inr (8, [.ref (u6 0)])), (u6 0, .inl (cA 0, 47, .inl (fun _ => 0))), (q7, .inr (8, [.ref (u8 0)])), (u8 0, .inl (cA 0, 47, .inl (fun _ => 0))), (q9, .inr (8, [.ref (u10 0)])), (u10 0, .inl (cA 0, 47, .inl (fun _ => 0))), (q11, .inr (8, [.ref (u12 0)])), (u12 0, .inl (cA 0, 47, .inl (fun _ => 0)))]) (n := 0) (n_X8) rfl rfl (by decide +kernel) (by decide +kernel) (by decide +kernel) (by decide +kernel) (by decide +kernel) (by decide) ⟨Nat.le_of_ble_eq_true rfl, Nat.le_of_ble_eq_true rfl⟩ (Nat.le_of_ble_eq_true rfl) (by decide +kernel) rfl (fun u14 => ?_)
  refine wc_ws [(a, .inr (4, [.ref q1, .ref q2, .int 0, .int 0, .int 0])), (q1, .inl (cA 4, 12, .inr (.inr (.inr (.inr (va_up (va_up (va_up (va_up (va_up (fun _ => none) 0 (some q3)) 1 (some q5)) 2 (some q7)) 3 (some q9)) 4 (some q11))))))), (q2, .inl (cA 4, 2, .inr (.inr (.inr (.inr (fun _ => none)))))), (q3, .inr (8, [.ref (u4 0)])), (u4 0, .inl (cA 0, 47, .inl (fun _ => 0))), (q5, .inr (8, [.ref (u6 0)])), (u6 0, .inl (cA 0, 47, .inl (fun _ => 0))), (q7, .inr (8, [.ref (u8 0)])), (u8 0, .inl (cA 0, 47, .inl (fun _ => 0))), (q9, .inr (8, [.ref (u10 0)])), (u10 0, .inl (cA 0, 47, .inl (fun _ => 0))), (q11, .inr (8, [.ref (u12 0)])), (u12 0, .inl (cA 0, 47, .inl (fun _ => 0))), (q13, .inr (8, [.ref (u14 0)])), (u14 0, .inl (cA 0, 47, .inl (fun _ => 0)))] rfl ?_
  refine wc_aast K 1 13 [(a, .inr (4, [.ref q1, .ref q2, .int 0, .int 0, .int 0])), (q1, .inl (cA 4, 12, .inr (.inr (.inr (.inr (va_up (va_up (va_up (va_up (va_up (va_up (fun _ => none) 0 (some q3)) 1 (some q5)) 2 (some q7)) 3 (some q9)) 4 (some q11)) 5 (some q13))))))), (q2, .inl (cA 4, 2, .inr (.inr (.inr (.inr (fun _ => none)))))), (q3, .inr (8, [.ref (u4 0)])), (u4 0, .inl (cA 0, 47, .inl (fun _ => 0))), (q5, .inr (8, [.ref (u6 0)])), (u6 0, .inl (cA 0, 47, .inl (fun _ => 0))), (q7, .inr (8, [.ref (u8 0)])), (u8 0, .inl (cA 0, 47, .inl (fun _ => 0))), (q9, .inr (8, [.ref (u10 0)])), (u10 0, .inl (cA 0, 47, .inl (fun _ => 0))), (q11, .inr (8, [.ref (u12 0)])), (u12 0, .inl (cA 0, 47, .inl (fun _ => 0))), (q13, .inr (8, [.ref (u14 0)])), (u14 0, .inl (cA 0, 47, .inl (fun _ => 0)))] rfl rfl (ix1 (j := 5) 12 (by omega)) (by decide +kernel) rfl ?_
  refine wc_iinc K 1 0 [(1, .int 6), (0, .ref a)] (v := 6) (by decide +kernel) rfl rfl (by decide) rfl ?_
  refine wc_goto K (-22) 23 (by decide +kernel) (by decide) ?_
  refine wc_iload K 1 0 (by decide +kernel) rfl ?_
  refine wc_bipush K 12 12 (by decide +kernel) rfl ?_
  refine wc_geN K (22) 48 (by decide +kernel) (by decide) (by decide) ?_
  refine wc_aload K 0 1 (by decide +kernel) rfl ?_
  refine wc_get K 11 0 4 0 rfl rfl (by decide) (by decide +kernel) rfl (by decide +kernel) ?_
  refine wc_iload K 1 0 (by decide +kernel) rfl ?_
  refine wc_new K 9 8 [.null] rfl (by decide +kernel) (by decide +kernel) (by decide +kernel) fs_8 (Nat.le_of_ble_eq_true rfl) (Nat.le_of_ble_eq_true rfl) (by decide +kernel) (fun q15 => ?_)
  refine wc_dup K (by decide +kernel) ?_
  refine wc_ctor K 18 (As := []) (st := [.ref q15, .int 6, .ref q1]) (W0 := [(a, .inr (4, [.ref q1, .ref q2, .int 0, .int 0, .int 0])), (q1, .inl (cA 4, 12, .inr (.inr (.inr (.inr (va_up (va_up (va_up (va_up (va_up (va_up (fun _ => none) 0 (some q3)) 1 (some q5)) 2 (some q7)) 3 (some q9)) 4 (some q11)) 5 (some q13))))))), (q2, .inl (cA 4, 2, .inr (.inr (.inr (.inr (fun _ => none)))))), (q3, .inr (8, [.ref (u4 0)])), (u4 0, .inl (cA 0, 47, .inl (fun _ => 0))), (q5, .inr (8, [.ref (u6 0)])), (u6 0, .inl (cA 0, 47, .inl (fun _ => 0))), (q7, .inr (8, [.ref (u8 0)])), (u8 0, .inl (cA 0, 47, .inl (fun _ => 0))), (q9, .inr (8, [.ref (u10 0)])), (u10 0, .inl (cA 0, 47, .inl (fun _ => 0))), (q11, .inr (8, [.ref (u12 0)])), (u12 0, .inl (cA 0, 47, .inl (fun _ => 0))), (q13, .inr (8, [.ref (u14 0)])), (u14 0, .inl (cA 0, 47, .inl (fun _ => 0)))]) (n := 0) (n_X8) rfl rfl (by decide +kernel) (by decide +kernel) (by decide +kernel) (by decide +kernel) (by decide +kernel) (by decide) ⟨Nat.le_of_ble_eq_true rfl, Nat.le_of_ble_eq_true rfl⟩ (Nat.le_of_ble_eq_true rfl) (by decide +kernel) rfl (fun u16 => ?_)
  refine wc_ws [(a, .inr (4, [.ref q1, .ref q2, .int 0, .int 0, .int 0])), (q1, .inl (cA 4, 12, .inr (.inr (.inr (.inr (va_up (va_up (va_up (va_up (va_up (va_up (fun _ => none) 0 (some q3)) 1 (some q5)) 2 (some q7)) 3 (some q9)) 4 (some q11)) 5 (some q13))))))), (q2, .inl (cA 4, 2, .inr (.inr (.inr (.inr (fun _ => none)))))), (q3, .inr (8, [.ref (u4 0)])), (u4 0, .inl (cA 0, 47, .inl (fun _ => 0))), (q5, .inr (8, [.ref (u6 0)])), (u6 0, .inl (cA 0, 47, .inl (fun _ => 0))), (q7, .inr (8, [.ref (u8 0)])), (u8 0, .inl (cA 0, 47, .inl (fun _ => 0))), (q9, .inr (8, [.ref (u10 0)])), (u10 0, .inl (cA 0, 47, .inl (fun _ => 0))), (q11, .inr (8, [.ref (u12 0)])), (u12 0, .inl (cA 0, 47, .inl (fun _ => 0))), (q13, .inr (8, [.ref (u14 0)])), (u14 0, .inl (cA 0, 47, .inl (fun _ => 0))), (q15, .inr (8, [.ref (u16 0)])), (u16 0, .inl (cA 0, 47, .inl (fun _ => 0)))] rfl ?_
  refine wc_aast K 1 15 [(a, .inr (4, [.ref q1, .ref q2, .int 0, .int 0, .int 0])), (q1, .inl (cA 4, 12, .inr (.inr (.inr (.inr (va_up (va_up (va_up (va_up (va_up (va_up (va_up (fun _ => none) 0 (some q3)) 1 (some q5)) 2 (some q7)) 3 (some q9)) 4 (some q11)) 5 (some q13)) 6 (some q15))))))), (q2, .inl (cA 4, 2, .inr (.inr (.inr (.inr (fun _ => none)))))), (q3, .inr (8, [.ref (u4 0)])), (u4 0, .inl (cA 0, 47, .inl (fun _ => 0))), (q5, .inr (8, [.ref (u6 0)])), (u6 0, .inl (cA 0, 47, .inl (fun _ => 0))), (q7, .inr (8, [.ref (u8 0)])), (u8 0, .inl (cA 0, 47, .inl (fun _ => 0))), (q9, .inr (8, [.ref (u10 0)])), (u10 0, .inl (cA 0, 47, .inl (fun _ => 0))), (q11, .inr (8, [.ref (u12 0)])), (u12 0, .inl (cA 0, 47, .inl (fun _ => 0))), (q13, .inr (8, [.ref (u14 0)])), (u14 0, .inl (cA 0, 47, .inl (fun _ => 0))), (q15, .inr (8, [.ref (u16 0)])), (u16 0, .inl (cA 0, 47, .inl (fun _ => 0)))] rfl rfl (ix1 (j := 6) 12 (by omega)) (by decide +kernel) rfl ?_
  refine wc_iinc K 1 0 [(1, .int 7), (0, .ref a)] (v := 7) (by decide +kernel) rfl rfl (by decide) rfl ?_
  refine wc_goto K (-22) 23 (by decide +kernel) (by decide) ?_
  refine wc_iload K 1 0 (by decide +kernel) rfl ?_
  refine wc_bipush K 12 12 (by decide +kernel) rfl ?_
  refine wc_geN K (22) 48 (by decide +kernel) (by decide) (by decide) ?_
  refine wc_aload K 0 1 (by decide +kernel) rfl ?_
  refine wc_get K 11 0 4 0 rfl rfl (by decide) (by decide +kernel) rfl (by decide +kernel) ?_
  refine wc_iload K 1 0 (by decide +kernel) rfl ?_
  refine wc_new K 9 8 [.null] rfl (by decide +kernel) (by decide +kernel) (by decide +kernel) fs_8 (Nat.le_of_ble_eq_true rfl) (Nat.le_of_ble_eq_true rfl) (by decide +kernel) (fun q17 => ?_)
  refine wc_dup K (by decide +kernel) ?_
  refine wc_ctor K 18 (As := []) (st := [.ref q17, .int 7, .ref q1]) (W0 := [(a, .inr (4, [.ref q1, .ref q2, .int 0, .int 0, .int 0])), (q1, .inl (cA 4, 12, .inr (.inr (.inr (.inr (va_up (va_up (va_up (va_up (va_up (va_up (va_up (fun _ => none) 0 (some q3)) 1 (some q5)) 2 (some q7)) 3 (some q9)) 4 (some q11)) 5 (some q13)) 6 (some q15))))))), (q2, .inl (cA 4, 2, .inr (.inr (.inr (.inr (fun _ => none)))))), (q3, .inr (8, [.ref (u4 0)])), (u4 0, .inl (cA 0, 47, .inl (fun _ => 0))), (q5, .inr (8, [.ref (u6 0)])), (u6 0, .inl (cA 0, 47, .inl (fun _ => 0))), (q7, .inr (8, [.ref (u8 0)])), (u8 0, .inl (cA 0, 47, .inl (fun _ => 0))), (q9, .inr (8, [.ref (u10 0)])), (u10 0, .inl (cA 0, 47, .inl (fun _ => 0))), (q11, .inr (8, [.ref (u12 0)])), (u12 0, .inl (cA 0, 47, .inl (fun _ => 0))), (q13, .inr (8, [.ref (u14 0)])), (u14 0, .inl (cA 0, 47, .inl (fun _ => 0))), (q15, .inr (8, [.ref (u16 0)])), (u16 0, .inl (cA 0, 47, .inl (fun _ => 0)))]) (n := 0) (n_X8) rfl rfl (by decide +kernel) (by decide +kernel) (by decide +kernel) (by decide +kernel) (by decide +kernel) (by decide) ⟨Nat.le_of_ble_eq_true rfl, Nat.le_of_ble_eq_true rfl⟩ (Nat.le_of_ble_eq_true rfl) (by decide +kernel) rfl (fun u18 => ?_)
  refine wc_ws [(a, .inr (4, [.ref q1, .ref q2, .int 0, .int 0, .int 0])), (q1, .inl (cA 4, 12, .inr (.inr (.inr (.inr (va_up (va_up (va_up (va_up (va_up (va_up (va_up (fun _ => none) 0 (some q3)) 1 (some q5)) 2 (some q7)) 3 (some q9)) 4 (some q11)) 5 (some q13)) 6 (some q15))))))), (q2, .inl (cA 4, 2, .inr (.inr (.inr (.inr (fun _ => none)))))), (q3, .inr (8, [.ref (u4 0)])), (u4 0, .inl (cA 0, 47, .inl (fun _ => 0))), (q5, .inr (8, [.ref (u6 0)])), (u6 0, .inl (cA 0, 47, .inl (fun _ => 0))), (q7, .inr (8, [.ref (u8 0)])), (u8 0, .inl (cA 0, 47, .inl (fun _ => 0))), (q9, .inr (8, [.ref (u10 0)])), (u10 0, .inl (cA 0, 47, .inl (fun _ => 0))), (q11, .inr (8, [.ref (u12 0)])), (u12 0, .inl (cA 0, 47, .inl (fun _ => 0))), (q13, .inr (8, [.ref (u14 0)])), (u14 0, .inl (cA 0, 47, .inl (fun _ => 0))), (q15, .inr (8, [.ref (u16 0)])), (u16 0, .inl (cA 0, 47, .inl (fun _ => 0))), (q17, .inr (8, [.ref (u18 0)])), (u18 0, .inl (cA 0, 47, .inl (fun _ => 0)))] rfl ?_
  refine wc_aast K 1 17 [(a, .inr (4, [.ref q1, .ref q2, .int 0, .int 0, .int 0])), (q1, .inl (cA 4, 12, .inr (.inr (.inr (.inr (va_up (va_up (va_up (va_up (va_up (va_up (va_up (va_up (fun _ => none) 0 (some q3)) 1 (some q5)) 2 (some q7)) 3 (some q9)) 4 (some q11)) 5 (some q13)) 6 (some q15)) 7 (some q17))))))), (q2, .inl (cA 4, 2, .inr (.inr (.inr (.inr (fun _ => none)))))), (q3, .inr (8, [.ref (u4 0)])), (u4 0, .inl (cA 0, 47, .inl (fun _ => 0))), (q5, .inr (8, [.ref (u6 0)])), (u6 0, .inl (cA 0, 47, .inl (fun _ => 0))), (q7, .inr (8, [.ref (u8 0)])), (u8 0, .inl (cA 0, 47, .inl (fun _ => 0))), (q9, .inr (8, [.ref (u10 0)])), (u10 0, .inl (cA 0, 47, .inl (fun _ => 0))), (q11, .inr (8, [.ref (u12 0)])), (u12 0, .inl (cA 0, 47, .inl (fun _ => 0))), (q13, .inr (8, [.ref (u14 0)])), (u14 0, .inl (cA 0, 47, .inl (fun _ => 0))), (q15, .inr (8, [.ref (u16 0)])), (u16 0, .inl (cA 0, 47, .inl (fun _ => 0))), (q17, .inr (8, [.ref (u18 0)])), (u18 0, .inl (cA 0, 47, .inl (fun _ => 0)))] rfl rfl (ix1 (j := 7) 12 (by omega)) (by decide +kernel) rfl ?_
  refine wc_iinc K 1 0 [(1, .int 8), (0, .ref a)] (v := 8) (by decide +kernel) rfl rfl (by decide) rfl ?_
  refine wc_goto K (-22) 23 (by decide +kernel) (by decide) ?_
  refine wc_iload K 1 0 (by decide +kernel) rfl ?_
  refine wc_bipush K 12 12 (by decide +kernel) rfl ?_
  refine wc_geN K (22) 48 (by decide +kernel) (by decide) (by decide) ?_
  refine wc_aload K 0 1 (by decide +kernel) rfl ?_
  refine wc_get K 11 0 4 0 rfl rfl (by decide) (by decide +kernel) rfl (by decide +kernel) ?_
  refine wc_iload K 1 0 (by decide +kernel) rfl ?_
  refine wc_new K 9 8 [.null] rfl (by decide +kernel) (by decide +kernel) (by decide +kernel) fs_8 (Nat.le_of_ble_eq_true rfl) (Nat.le_of_ble_eq_true rfl) (by decide +kernel) (fun q19 => ?_)
  refine wc_dup K (by decide +kernel) ?_
  refine wc_ctor K 18 (As := []) (st := [.ref q19, .int 8, .ref q1]) (W0 := [(a, .inr (4, [.ref q1, .ref q2, .int 0, .int 0, .int 0])), (q1, .inl (cA 4, 12, .inr (.inr (.inr (.inr (va_up (va_up (va_up (va_up (va_up (va_up (va_up (va_up (fun _ => none) 0 (some q3)) 1 (some q5)) 2 (some q7)) 3 (some q9)) 4 (some q11)) 5 (some q13)) 6 (some q15)) 7 (some q17))))))), (q2, .inl (cA 4, 2, .inr (.inr (.inr (.inr (fun _ => none)))))), (q3, .inr (8, [.ref (u4 0)])), (u4 0, .inl (cA 0, 47, .inl (fun _ => 0))), (q5, .inr (8, [.ref (u6 0)])), (u6 0, .inl (cA 0, 47, .inl (fun _ => 0))), (q7, .inr (8, [.ref (u8 0)])), (u8 0, .inl (cA 0, 47, .inl (fun _ => 0))), (q9, .inr (8, [.ref (u10 0)])), (u10 0, .inl (cA 0, 47, .inl (fun _ => 0))), (q11, .inr (8, [.ref (u12 0)])), (u12 0, .inl (cA 0, 47, .inl (fun _ => 0))), (q13, .inr (8, [.ref (u14 0)])), (u14 0, .inl (cA 0, 47, .inl (fun _ => 0))), (q15, .inr (8, [.ref (u16 0)])), (u16 0, .inl (cA 0, 47, .inl (fun _ => 0))), (q17, .inr (8, [.ref (u18 0)])), (u18 0, .inl (cA 0, 47, .inl (fun _ => 0)))]) (n := 0) (n_X8) rfl rfl (by decide +kernel) (by decide +kernel) (by decide +kernel) (by decide +kernel) (by decide +kernel) (by decide) ⟨Nat.le_of_ble_eq_true rfl, Nat.le_of_ble_eq_true rfl⟩ (Nat.le_of_ble_eq_true rfl) (by decide +kernel) rfl (fun u20 => ?_)
  refine wc_ws [(a, .inr (4, [.ref q1, .ref q2, .int 0, .int 0, .int 0])), (q1, .inl (cA 4, 12, .inr (.inr (.inr (.inr (va_up (va_up (va_up (va_up (va_up (va_up (va_up (va_up (fun _ => none) 0 (some q3)) 1 (some q5)) 2 (some q7)) 3 (some q9)) 4 (some q11)) 5 (some q13)) 6 (some q15)) 7 (some q17))))))), (q2, .inl (cA 4, 2, .inr (.inr (.inr (.inr (fun _ => none)))))), (q3, .inr (8, [.ref (u4 0)])), (u4 0, .inl (cA 0, 47, .inl (fun _ => 0))), (q5, .inr (8, [.ref (u6 0)])), (u6 0, .inl (cA 0, 47, .inl (fun _ => 0))), (q7, .inr (8, [.ref (u8 0)])), (u8 0, .inl (cA 0, 47, .inl (fun _ => 0))), (q9, .inr (8, [.ref (u10 0)])), (u10 0, .inl (cA 0, 47, .inl (fun _ => 0))), (q11, .inr (8, [.ref (u12 0)])), (u12 0, .inl (cA 0, 47, .inl (fun _ => 0))), (q13, .inr (8, [.ref (u14 0)])), (u14 0, .inl (cA 0, 47, .inl (fun _ => 0))), (q15, .inr (8, [.ref (u16 0)])), (u16 0, .inl (cA 0, 47, .inl (fun _ => 0))), (q17, .inr (8, [.ref (u18 0)])), (u18 0, .inl (cA 0, 47, .inl (fun _ => 0))), (q19, .inr (8, [.ref (u20 0)])), (u20 0, .inl (cA 0, 47, .inl (fun _ => 0)))] rfl ?_
  refine wc_aast K 1 19 [(a, .inr (4, [.ref q1, .ref q2, .int 0, .int 0, .int 0])), (q1, .inl (cA 4, 12, .inr (.inr (.inr (.inr (va_up (va_up (va_up (va_up (va_up (va_up (va_up (va_up (va_up (fun _ => none) 0 (some q3)) 1 (some q5)) 2 (some q7)) 3 (some q9)) 4 (some q11)) 5 (some q13)) 6 (some q15)) 7 (some q17)) 8 (some q19))))))), (q2, .inl (cA 4, 2, .inr (.inr (.inr (.inr (fun _ => none)))))), (q3, .inr (8, [.ref (u4 0)])), (u4 0, .inl (cA 0, 47, .inl (fun _ => 0))), (q5, .inr (8, [.ref (u6 0)])), (u6 0, .inl (cA 0, 47, .inl (fun _ => 0))), (q7, .inr (8, [.ref (u8 0)])), (u8 0, .inl (cA 0, 47, .inl (fun _ => 0))), (q9, .inr (8, [.ref (u10 0)])), (u10 0, .inl (cA 0, 47, .inl (fun _ => 0))), (q11, .inr (8, [.ref (u12 0)])), (u12 0, .inl (cA 0, 47, .inl (fun _ => 0))), (q13, .inr (8, [.ref (u14 0)])), (u14 0, .inl (cA 0, 47, .inl (fun _ => 0))), (q15, .inr (8, [.ref (u16 0)])), (u16 0, .inl (cA 0, 47, .inl (fun _ => 0))), (q17, .inr (8, [.ref (u18 0)])), (u18 0, .inl (cA 0, 47, .inl (fun _ => 0))), (q19, .inr (8, [.ref (u20 0)])), (u20 0, .inl (cA 0, 47, .inl (fun _ => 0)))] rfl rfl (ix1 (j := 8) 12 (by omega)) (by decide +kernel) rfl ?_
  refine wc_iinc K 1 0 [(1, .int 9), (0, .ref a)] (v := 9) (by decide +kernel) rfl rfl (by decide) rfl ?_
  refine wc_goto K (-22) 23 (by decide +kernel) (by decide) ?_
  refine wc_iload K 1 0 (by decide +kernel) rfl ?_
  refine wc_bipush K 12 12 (by decide +kernel) rfl ?_
  refine wc_geN K (22) 48 (by decide +kernel) (by decide) (by decide) ?_
  refine wc_aload K 0 1 (by decide +kernel) rfl ?_
  refine wc_get K 11 0 4 0 rfl rfl (by decide) (by decide +kernel) rfl (by decide +kernel) ?_
  refine wc_iload K 1 0 (by decide +kernel) rfl ?_
  refine wc_new K 9 8 [.null] rfl (by decide +kernel) (by decide +kernel) (by decide +kernel) fs_8 (Nat.le_of_ble_eq_true rfl) (Nat.le_of_ble_eq_true rfl) (by decide +kernel) (fun q21 => ?_)
  refine wc_dup K (by decide +kernel) ?_
  refine wc_ctor K 18 (As := []) (st := [.ref q21, .int 9, .ref q1]) (W0 := [(a, .inr (4, [.ref q1, .ref q2, .int 0, .int 0, .int 0])), (q1, .inl (cA 4, 12, .inr (.inr (.inr (.inr (va_up (va_up (va_up (va_up (va_up (va_up (va_up (va_up (va_up (fun _ => none) 0 (some q3)) 1 (some q5)) 2 (some q7)) 3 (some q9)) 4 (some q11)) 5 (some q13)) 6 (some q15)) 7 (some q17)) 8 (some q19))))))), (q2, .inl (cA 4, 2, .inr (.inr (.inr (.inr (fun _ => none)))))), (q3, .inr (8, [.ref (u4 0)])), (u4 0, .inl (cA 0, 47, .inl (fun _ => 0))), (q5, .inr (8, [.ref (u6 0)])), (u6 0, .inl (cA 0, 47, .inl (fun _ => 0))), (q7, .inr (8, [.ref (u8 0)])), (u8 0, .inl (cA 0, 47, .inl (fun _ => 0))), (q9, .inr (8, [.ref (u10 0)])), (u10 0, .inl (cA 0, 47, .inl (fun _ => 0))), (q11, .inr (8, [.ref (u12 0)])), (u12 0, .inl (cA 0, 47, .inl (fun _ => 0))), (q13, .inr (8, [.ref (u14 0)])), (u14 0, .inl (cA 0, 47, .inl (fun _ => 0))), (q15, .inr (8, [.ref (u16 0)])), (u16 0, .inl (cA 0, 47, .inl (fun _ => 0))), (q17, .inr (8, [.ref (u18 0)])), (u18 0, .inl (cA 0, 47, .inl (fun _ => 0))), (q19, .inr (8, [.ref (u20 0)])), (u20 0, .inl (cA 0, 47, .inl (fun _ => 0)))]) (n := 0) (n_X8) rfl rfl (by decide +kernel) (by decide +kernel) (by decide +kernel) (by decide +kernel) (by decide +kernel) (by decide) ⟨Nat.le_of_ble_eq_true rfl, Nat.le_of_ble_eq_true rfl⟩ (Nat.le_of_ble_eq_true rfl) (by decide +kernel) rfl (fun u22 => ?_)
  refine wc_ws [(a, .inr (4, [.ref q1, .ref q2, .int 0, .int 0, .int 0])), (q1, .inl (cA 4, 12, .inr (.inr (.inr (.inr (va_up (va_up (va_up (va_up (va_up (va_up (va_up (va_up (va_up (fun _ => none) 0 (some q3)) 1 (some q5)) 2 (some q7)) 3 (some q9)) 4 (some q11)) 5 (some q13)) 6 (some q15)) 7 (some q17)) 8 (some q19))))))), (q2, .inl (cA 4, 2, .inr (.inr (.inr (.inr (fun _ => none)))))), (q3, .inr (8, [.ref (u4 0)])), (u4 0, .inl (cA 0, 47, .inl (fun _ => 0))), (q5, .inr (8, [.ref (u6 0)])), (u6 0, .inl (cA 0, 47, .inl (fun _ => 0))), (q7, .inr (8, [.ref (u8 0)])), (u8 0, .inl (cA 0, 47, .inl (fun _ => 0))), (q9, .inr (8, [.ref (u10 0)])), (u10 0, .inl (cA 0, 47, .inl (fun _ => 0))), (q11, .inr (8, [.ref (u12 0)])), (u12 0, .inl (cA 0, 47, .inl (fun _ => 0))), (q13, .inr (8, [.ref (u14 0)])), (u14 0, .inl (cA 0, 47, .inl (fun _ => 0))), (q15, .inr (8, [.ref (u16 0)])), (u16 0, .inl (cA 0, 47, .inl (fun _ => 0))), (q17, .inr (8, [.ref (u18 0)])), (u18 0, .inl (cA 0, 47, .inl (fun _ => 0))), (q19, .inr (8, [.ref (u20 0)])), (u20 0, .inl (cA 0, 47, .inl (fun _ => 0))), (q21, .inr (8, [.ref (u22 0)])), (u22 0, .inl (cA 0, 47, .inl (fun _ => 0)))] rfl ?_
  refine wc_aast K 1 21 [(a, .inr (4, [.ref q1, .ref q2, .int 0, .int 0, .int 0])), (q1, .inl (cA 4, 12, .inr (.inr (.inr (.inr (va_up (va_up (va_up (va_up (va_up (va_up (va_up (va_up (va_up (va_up (fun _ => none) 0 (some q3)) 1 (some q5)) 2 (some q7)) 3 (some q9)) 4 (some q11)) 5 (some q13)) 6 (some q15)) 7 (some q17)) 8 (some q19)) 9 (some q21))))))), (q2, .inl (cA 4, 2, .inr (.inr (.inr (.inr (fun _ => none)))))), (q3, .inr (8, [.ref (u4 0)])), (u4 0, .inl (cA 0, 47, .inl (fun _ => 0))), (q5, .inr (8, [.ref (u6 0)])), (u6 0, .inl (cA 0, 47, .inl (fun _ => 0))), (q7, .inr (8, [.ref (u8 0)])), (u8 0, .inl (cA 0, 47, .inl (fun _ => 0))), (q9, .inr (8, [.ref (u10 0)])), (u10 0, .inl (cA 0, 47, .inl (fun _ => 0))), (q11, .inr (8, [.ref (u12 0)])), (u12 0, .inl (cA 0, 47, .inl (fun _ => 0))), (q13, .inr (8, [.ref (u14 0)])), (u14 0, .inl (cA 0, 47, .inl (fun _ => 0))), (q15, .inr (8, [.ref (u16 0)])), (u16 0, .inl (cA 0, 47, .inl (fun _ => 0))), (q17, .inr (8, [.ref (u18 0)])), (u18 0, .inl (cA 0, 47, .inl (fun _ => 0))), (q19, .inr (8, [.ref (u20 0)])), (u20 0, .inl (cA 0, 47, .inl (fun _ => 0))), (q21, .inr (8, [.ref (u22 0)])), (u22 0, .inl (cA 0, 47, .inl (fun _ => 0)))] rfl rfl (ix1 (j := 9) 12 (by omega)) (by decide +kernel) rfl ?_
  refine wc_iinc K 1 0 [(1, .int 10), (0, .ref a)] (v := 10) (by decide +kernel) rfl rfl (by decide) rfl ?_
  refine wc_goto K (-22) 23 (by decide +kernel) (by decide) ?_
  refine wc_iload K 1 0 (by decide +kernel) rfl ?_
  refine wc_bipush K 12 12 (by decide +kernel) rfl ?_
  refine wc_geN K (22) 48 (by decide +kernel) (by decide) (by decide) ?_
  refine wc_aload K 0 1 (by decide +kernel) rfl ?_
  refine wc_get K 11 0 4 0 rfl rfl (by decide) (by decide +kernel) rfl (by decide +kernel) ?_
  refine wc_iload K 1 0 (by decide +kernel) rfl ?_
  refine wc_new K 9 8 [.null] rfl (by decide +kernel) (by decide +kernel) (by decide +kernel) fs_8 (Nat.le_of_ble_eq_true rfl) (Nat.le_of_ble_eq_true rfl) (by decide +kernel) (fun q23 => ?_)
  refine wc_dup K (by decide +kernel) ?_
  refine wc_ctor K 18 (As := []) (st := [.ref q23, .int 10, .ref q1]) (W0 := [(a, .inr (4, [.ref q1, .ref q2, .int 0, .int 0, .int 0])), (q1, .inl (cA 4, 12, .inr (.inr (.inr (.inr (va_up (va_up (va_up (va_up (va_up (va_up (va_up (va_up (va_up (va_up (fun _ => none) 0 (some q3)) 1 (some q5)) 2 (some q7)) 3 (some q9)) 4 (some q11)) 5 (some q13)) 6 (some q15)) 7 (some q17)) 8 (some q19)) 9 (some q21))))))), (q2, .inl (cA 4, 2, .inr (.inr (.inr (.inr (fun _ => none)))))), (q3, .inr (8, [.ref (u4 0)])), (u4 0, .inl (cA 0, 47, .inl (fun _ => 0))), (q5, .inr (8, [.ref (u6 0)])), (u6 0, .inl (cA 0, 47, .inl (fun _ => 0))), (q7, .inr (8, [.ref (u8 0)])), (u8 0, .inl (cA 0, 47, .inl (fun _ => 0))), (q9, .inr (8, [.ref (u10 0)])), (u10 0, .inl (cA 0, 47, .inl (fun _ => 0))), (q11, .inr (8, [.ref (u12 0)])), (u12 0, .inl (cA 0, 47, .inl (fun _ => 0))), (q13, .inr (8, [.ref (u14 0)])), (u14 0, .inl (cA 0, 47, .inl (fun _ => 0))), (q15, .inr (8, [.ref (u16 0)])), (u16 0, .inl (cA 0, 47, .inl (fun _ => 0))), (q17, .inr (8, [.ref (u18 0)])), (u18 0, .inl (cA 0, 47, .inl (fun _ => 0))), (q19, .inr (8, [.ref (u20 0)])), (u20 0, .inl (cA 0, 47, .inl (fun _ => 0))), (q21, .inr (8, [.ref (u22 0)])), (u22 0, .inl (cA 0, 47, .inl (fun _ => 0)))]) (n := 0) (n_X8) rfl rfl (by decide +kernel) (by decide +kernel) (by decide +kernel) (by decide +kernel) (by decide +kernel) (by decide) ⟨Nat.le_of_ble_eq_true rfl, Nat.le_of_ble_eq_true rfl⟩ (Nat.le_of_ble_eq_true rfl) (by decide +kernel) rfl (fun u24 => ?_)
  refine wc_ws [(a, .inr (4, [.ref q1, .ref q2, .int 0, .int 0, .int 0])), (q1, .inl (cA 4, 12, .inr (.inr (.inr (.inr (va_up (va_up (va_up (va_up (va_up (va_up (va_up (va_up (va_up (va_up (fun _ => none) 0 (some q3)) 1 (some q5)) 2 (some q7)) 3 (some q9)) 4 (some q11)) 5 (some q13)) 6 (some q15)) 7 (some q17)) 8 (some q19)) 9 (some q21))))))), (q2, .inl (cA 4, 2, .inr (.inr (.inr (.inr (fun _ => none)))))), (q3, .inr (8, [.ref (u4 0)])), (u4 0, .inl (cA 0, 47, .inl (fun _ => 0))), (q5, .inr (8, [.ref (u6 0)])), (u6 0, .inl (cA 0, 47, .inl (fun _ => 0))), (q7, .inr (8, [.ref (u8 0)])), (u8 0, .inl (cA 0, 47, .inl (fun _ => 0))), (q9, .inr (8, [.ref (u10 0)])), (u10 0, .inl (cA 0, 47, .inl (fun _ => 0))), (q11, .inr (8, [.ref (u12 0)])), (u12 0, .inl (cA 0, 47, .inl (fun _ => 0))), (q13, .inr (8, [.ref (u14 0)])), (u14 0, .inl (cA 0, 47, .inl (fun _ => 0))), (q15, .inr (8, [.ref (u16 0)])), (u16 0, .inl (cA 0, 47, .inl (fun _ => 0))), (q17, .inr (8, [.ref (u18 0)])), (u18 0, .inl (cA 0, 47, .inl (fun _ => 0))), (q19, .inr (8, [.ref (u20 0)])), (u20 0, .inl (cA 0, 47, .inl (fun _ => 0))), (q21, .inr (8, [.ref (u22 0)])), (u22 0, .inl (cA 0, 47, .inl (fun _ => 0))), (q23, .inr (8, [.ref (u24 0)])), (u24 0, .inl (cA 0, 47, .inl (fun _ => 0)))] rfl ?_
  refine wc_aast K 1 23 [(a, .inr (4, [.ref q1, .ref q2, .int 0, .int 0, .int 0])), (q1, .inl (cA 4, 12, .inr (.inr (.inr (.inr (va_up (va_up (va_up (va_up (va_up (va_up (va_up (va_up (va_up (va_up (va_up (fun _ => none) 0 (some q3)) 1 (some q5)) 2 (some q7)) 3 (some q9)) 4 (some q11)) 5 (some q13)) 6 (some q15)) 7 (some q17)) 8 (some q19)) 9 (some q21)) 10 (some q23))))))), (q2, .inl (cA 4, 2, .inr (.inr (.inr (.inr (fun _ => none)))))), (q3, .inr (8, [.ref (u4 0)])), (u4 0, .inl (cA 0, 47, .inl (fun _ => 0))), (q5, .inr (8, [.ref (u6 0)])), (u6 0, .inl (cA 0, 47, .inl (fun _ => 0))), (q7, .inr (8, [.ref (u8 0)])), (u8 0, .inl (cA 0, 47, .inl (fun _ => 0))), (q9, .inr (8, [.ref (u10 0)])), (u10 0, .inl (cA 0, 47, .inl (fun _ => 0))), (q11, .inr (8, [.ref (u12 0)])), (u12 0, .inl (cA 0, 47, .inl (fun _ => 0))), (q13, .inr (8, [.ref (u14 0)])), (u14 0, .inl (cA 0, 47, .inl (fun _ => 0))), (q15, .inr (8, [.ref (u16 0)])), (u16 0, .inl (cA 0, 47, .inl (fun _ => 0))), (q17, .inr (8, [.ref (u18 0)])), (u18 0, .inl (cA 0, 47, .inl (fun _ => 0))), (q19, .inr (8, [.ref (u20 0)])), (u20 0, .inl (cA 0, 47, .inl (fun _ => 0))), (q21, .inr (8, [.ref (u22 0)])), (u22 0, .inl (cA 0, 47, .inl (fun _ => 0))), (q23, .inr (8, [.ref (u24 0)])), (u24 0, .inl (cA 0, 47, .inl (fun _ => 0)))] rfl rfl (ix1 (j := 10) 12 (by omega)) (by decide +kernel) rfl ?_
  refine wc_iinc K 1 0 [(1, .int 11), (0, .ref a)] (v := 11) (by decide +kernel) rfl rfl (by decide) rfl ?_
  refine wc_goto K (-22) 23 (by decide +kernel) (by decide) ?_
  refine wc_iload K 1 0 (by decide +kernel) rfl ?_
  refine wc_bipush K 12 12 (by decide +kernel) rfl ?_
  refine wc_geN K (22) 48 (by decide +kernel) (by decide) (by decide) ?_
  refine wc_aload K 0 1 (by decide +kernel) rfl ?_
  refine wc_get K 11 0 4 0 rfl rfl (by decide) (by decide +kernel) rfl (by decide +kernel) ?_
  refine wc_iload K 1 0 (by decide +kernel) rfl ?_
  refine wc_new K 9 8 [.null] rfl (by decide +kernel) (by decide +kernel) (by decide +kernel) fs_8 (Nat.le_of_ble_eq_true rfl) (Nat.le_of_ble_eq_true rfl) (by decide +kernel) (fun q25 => ?_)
  refine wc_dup K (by decide +kernel) ?_
  refine wc_ctor K 18 (As := []) (st := [.ref q25, .int 11, .ref q1]) (W0 := [(a, .inr (4, [.ref q1, .ref q2, .int 0, .int 0, .int 0])), (q1, .inl (cA 4, 12, .inr (.inr (.inr (.inr (va_up (va_up (va_up (va_up (va_up (va_up (va_up (va_up (va_up (va_up (va_up (fun _ => none) 0 (some q3)) 1 (some q5)) 2 (some q7)) 3 (some q9)) 4 (some q11)) 5 (some q13)) 6 (some q15)) 7 (some q17)) 8 (some q19)) 9 (some q21)) 10 (some q23))))))), (q2, .inl (cA 4, 2, .inr (.inr (.inr (.inr (fun _ => none)))))), (q3, .inr (8, [.ref (u4 0)])), (u4 0, .inl (cA 0, 47, .inl (fun _ => 0))), (q5, .inr (8, [.ref (u6 0)])), (u6 0, .inl (cA 0, 47, .inl (fun _ => 0))), (q7, .inr (8, [.ref (u8 0)])), (u8 0, .inl (cA 0, 47, .inl (fun _ => 0))), (q9, .inr (8, [.ref (u10 0)])), (u10 0, .inl (cA 0, 47, .inl (fun _ => 0))), (q11, .inr (8, [.ref (u12 0)])), (u12 0, .inl (cA 0, 47, .inl (fun _ => 0))), (q13, .inr (8, [.ref (u14 0)])), (u14 0, .inl (cA 0, 47, .inl (fun _ => 0))), (q15, .inr (8, [.ref (u16 0)])), (u16 0, .inl (cA 0, 47, .inl (fun _ => 0))), (q17, .inr (8, [.ref (u18 0)])), (u18 0, .inl (cA 0, 47, .inl (fun _ => 0))), (q19, .inr (8, [.ref (u20 0)])), (u20 0, .inl (cA 0, 47, .inl (fun _ => 0))), (q21, .inr (8, [.ref (u22 0)])), (u22 0, .inl (cA 0, 47, .inl (fun _ => 0))), (q23, .inr (8, [.ref (u24 0)])), (u24 0, .inl (cA 0, 47, .inl (fun _ => 0)))]) (n := 0) (n_X8) rfl rfl (by decide +kernel) (by decide +kernel) (by decide +kernel) (by decide +kernel) (by decide +kernel) (by decide) ⟨Nat.le_of_ble_eq_true rfl, Nat.le_of_ble_eq_true rfl⟩ (Nat.le_of_ble_eq_true rfl) (by decide +kernel) rfl (fun u26 => ?_)
  refine wc_ws [(a, .inr (4, [.ref q1, .ref q2, .int 0, .int 0, .int 0])), (q1, .inl (cA 4, 12, .inr (.inr (.inr (.inr (va_up (va_up (va_up (va_up (va_up (va_up (va_up (va_up (va_up (va_up (va_up (fun _ => none) 0 (some q3)) 1 (some q5)) 2 (some q7)) 3 (some q9)) 4 (some q11)) 5 (some q13)) 6 (some q15)) 7 (some q17)) 8 (some q19)) 9 (some q21)) 10 (some q23))))))), (q2, .inl (cA 4, 2, .inr (.inr (.inr (.inr (fun _ => none)))))), (q3, .inr (8, [.ref (u4 0)])), (u4 0, .inl (cA 0, 47, .inl (fun _ => 0))), (q5, .inr (8, [.ref (u6 0)])), (u6 0, .inl (cA 0, 47, .inl (fun _ => 0))), (q7, .inr (8, [.ref (u8 0)])), (u8 0, .inl (cA 0, 47, .inl (fun _ => 0))), (q9, .inr (8, [.ref (u10 0)])), (u10 0, .inl (cA 0, 47, .inl (fun _ => 0))), (q11, .inr (8, [.ref (u12 0)])), (u12 0, .inl (cA 0, 47, .inl (fun _ => 0))), (q13, .inr (8, [.ref (u14 0)])), (u14 0, .inl (cA 0, 47, .inl (fun _ => 0))), (q15, .inr (8, [.ref (u16 0)])), (u16 0, .inl (cA 0, 47, .inl (fun _ => 0))), (q17, .inr (8, [.ref (u18 0)])), (u18 0, .inl (cA 0, 47, .inl (fun _ => 0))), (q19, .inr (8, [.ref (u20 0)])), (u20 0, .inl (cA 0, 47, .inl (fun _ => 0))), (q21, .inr (8, [.ref (u22 0)])), (u22 0, .inl (cA 0, 47, .inl (fun _ => 0))), (q23, .inr (8, [.ref (u24 0)])), (u24 0, .inl (cA 0, 47, .inl (fun _ => 0))), (q25, .inr (8, [.ref (u26 0)])), (u26 0, .inl (cA 0, 47, .inl (fun _ => 0)))] rfl ?_
  refine wc_aast K 1 25 [(a, .inr (4, [.ref q1, .ref q2, .int 0, .int 0, .int 0])), (q1, .inl (cA 4, 12, .inr (.inr (.inr (.inr (va_up (va_up (va_up (va_up (va_up (va_up (va_up (va_up (va_up (va_up (va_up (va_up (fun _ => none) 0 (some q3)) 1 (some q5)) 2 (some q7)) 3 (some q9)) 4 (some q11)) 5 (some q13)) 6 (some q15)) 7 (some q17)) 8 (some q19)) 9 (some q21)) 10 (some q23)) 11 (some q25))))))), (q2, .inl (cA 4, 2, .inr (.inr (.inr (.inr (fun _ => none)))))), (q3, .inr (8, [.ref (u4 0)])), (u4 0, .inl (cA 0, 47, .inl (fun _ => 0))), (q5, .inr (8, [.ref (u6 0)])), (u6 0, .inl (cA 0, 47, .inl (fun _ => 0))), (q7, .inr (8, [.ref (u8 0)])), (u8 0, .inl (cA 0, 47, .inl (fun _ => 0))), (q9, .inr (8, [.ref (u10 0)])), (u10 0, .inl (cA 0, 47, .inl (fun _ => 0))), (q11, .inr (8, [.ref (u12 0)])), (u12 0, .inl (cA 0, 47, .inl (fun _ => 0))), (q13, .inr (8, [.ref (u14 0)])), (u14 0, .inl (cA 0, 47, .inl (fun _ => 0))), (q15, .inr (8, [.ref (u16 0)])), (u16 0, .inl (cA 0, 47, .inl (fun _ => 0))), (q17, .inr (8, [.ref (u18 0)])), (u18 0, .inl (cA 0, 47, .inl (fun _ => 0))), (q19, .inr (8, [.ref (u20 0)])), (u20 0, .inl (cA 0, 47, .inl (fun _ => 0))), (q21, .inr (8, [.ref (u22 0)])), (u22 0, .inl (cA 0, 47, .inl (fun _ => 0))), (q23, .inr (8, [.ref (u24 0)])), (u24 0, .inl (cA 0, 47, .inl (fun _ => 0))), (q25, .inr (8, [.ref (u26 0)])), (u26 0, .inl (cA 0, 47, .inl (fun _ => 0)))] rfl rfl (ix1 (j := 11) 12 (by omega)) (by decide +kernel) rfl ?_
  refine wc_iinc K 1 0 [(1, .int 12), (0, .ref a)] (v := 12) (by decide +kernel) rfl rfl (by decide) rfl ?_
  refine wc_goto K (-22) 23 (by decide +kernel) (by decide) ?_
  refine wc_iload K 1 0 (by decide +kernel) rfl ?_
  refine wc_bipush K 12 12 (by decide +kernel) rfl ?_
  refine wc_geY K (22) 48 (by decide +kernel) (by decide) (by decide) ?_
  refine wc_iconst K 0 0 (by decide +kernel) rfl ?_
  refine wc_istore K 1 [(1, .int 0), (0, .ref a)] (by decide +kernel) (by decide) rfl ?_
  refine wc_iload K 1 0 (by decide +kernel) rfl ?_
  refine wc_iconst K 2 2 (by decide +kernel) rfl ?_
  refine wc_geN K (22) 74 (by decide +kernel) (by decide) (by decide) ?_
  refine wc_aload K 0 1 (by decide +kernel) rfl ?_
  refine wc_get K 15 0 4 1 rfl rfl (by decide) (by decide +kernel) rfl (by decide +kernel) ?_
  refine wc_iload K 1 0 (by decide +kernel) rfl ?_
  refine wc_new K 9 8 [.null] rfl (by decide +kernel) (by decide +kernel) (by decide +kernel) fs_8 (Nat.le_of_ble_eq_true rfl) (Nat.le_of_ble_eq_true rfl) (by decide +kernel) (fun q27 => ?_)
  refine wc_dup K (by decide +kernel) ?_
  refine wc_ctor K 18 (As := []) (st := [.ref q27, .int 0, .ref q2]) (W0 := [(a, .inr (4, [.ref q1, .ref q2, .int 0, .int 0, .int 0])), (q1, .inl (cA 4, 12, .inr (.inr (.inr (.inr (va_up (va_up (va_up (va_up (va_up (va_up (va_up (va_up (va_up (va_up (va_up (va_up (fun _ => none) 0 (some q3)) 1 (some q5)) 2 (some q7)) 3 (some q9)) 4 (some q11)) 5 (some q13)) 6 (some q15)) 7 (some q17)) 8 (some q19)) 9 (some q21)) 10 (some q23)) 11 (some q25))))))), (q2, .inl (cA 4, 2, .inr (.inr (.inr (.inr (fun _ => none)))))), (q3, .inr (8, [.ref (u4 0)])), (u4 0, .inl (cA 0, 47, .inl (fun _ => 0))), (q5, .inr (8, [.ref (u6 0)])), (u6 0, .inl (cA 0, 47, .inl (fun _ => 0))), (q7, .inr (8, [.ref (u8 0)])), (u8 0, .inl (cA 0, 47, .inl (fun _ => 0))), (q9, .inr (8, [.ref (u10 0)])), (u10 0, .inl (cA 0, 47, .inl (fun _ => 0))), (q11, .inr (8, [.ref (u12 0)])), (u12 0, .inl (cA 0, 47, .inl (fun _ => 0))), (q13, .inr (8, [.ref (u14 0)])), (u14 0, .inl (cA 0, 47, .inl (fun _ => 0))), (q15, .inr (8, [.ref (u16 0)])), (u16 0, .inl (cA 0, 47, .inl (fun _ => 0))), (q17, .inr (8, [.ref (u18 0)])), (u18 0, .inl (cA 0, 47, .inl (fun _ => 0))), (q19, .inr (8, [.ref (u20 0)])), (u20 0, .inl (cA 0, 47, .inl (fun _ => 0))), (q21, .inr (8, [.ref (u22 0)])), (u22 0, .inl (cA 0, 47, .inl (fun _ => 0))), (q23, .inr (8, [.ref (u24 0)])), (u24 0, .inl (cA 0, 47, .inl (fun _ => 0))), (q25, .inr (8, [.ref (u26 0)])), (u26 0, .inl (cA 0, 47, .inl (fun _ => 0)))]) (n := 0) (n_X8) rfl rfl (by decide +kernel) (by decide +kernel) (by decide +kernel) (by decide +kernel) (by decide +kernel) (by decide) ⟨Nat.le_of_ble_eq_true rfl, Nat.le_of_ble_eq_true rfl⟩ (Nat.le_of_ble_eq_true rfl) (by decide +kernel) rfl (fun u28 => ?_)
  refine wc_ws [(a, .inr (4, [.ref q1, .ref q2, .int 0, .int 0, .int 0])), (q1, .inl (cA 4, 12, .inr (.inr (.inr (.inr (va_up (va_up (va_up (va_up (va_up (va_up (va_up (va_up (va_up (va_up (va_up (va_up (fun _ => none) 0 (some q3)) 1 (some q5)) 2 (some q7)) 3 (some q9)) 4 (some q11)) 5 (some q13)) 6 (some q15)) 7 (some q17)) 8 (some q19)) 9 (some q21)) 10 (some q23)) 11 (some q25))))))), (q2, .inl (cA 4, 2, .inr (.inr (.inr (.inr (fun _ => none)))))), (q3, .inr (8, [.ref (u4 0)])), (u4 0, .inl (cA 0, 47, .inl (fun _ => 0))), (q5, .inr (8, [.ref (u6 0)])), (u6 0, .inl (cA 0, 47, .inl (fun _ => 0))), (q7, .inr (8, [.ref (u8 0)])), (u8 0, .inl (cA 0, 47, .inl (fun _ => 0))), (q9, .inr (8, [.ref (u10 0)])), (u10 0, .inl (cA 0, 47, .inl (fun _ => 0))), (q11, .inr (8, [.ref (u12 0)])), (u12 0, .inl (cA 0, 47, .inl (fun _ => 0))), (q13, .inr (8, [.ref (u14 0)])), (u14 0, .inl (cA 0, 47, .inl (fun _ => 0))), (q15, .inr (8, [.ref (u16 0)])), (u16 0, .inl (cA 0, 47, .inl (fun _ => 0))), (q17, .inr (8, [.ref (u18 0)])), (u18 0, .inl (cA 0, 47, .inl (fun _ => 0))), (q19, .inr (8, [.ref (u20 0)])), (u20 0, .inl (cA 0, 47, .inl (fun _ => 0))), (q21, .inr (8, [.ref (u22 0)])), (u22 0, .inl (cA 0, 47, .inl (fun _ => 0))), (q23, .inr (8, [.ref (u24 0)])), (u24 0, .inl (cA 0, 47, .inl (fun _ => 0))), (q25, .inr (8, [.ref (u26 0)])), (u26 0, .inl (cA 0, 47, .inl (fun _ => 0))), (q27, .inr (8, [.ref (u28 0)])), (u28 0, .inl (cA 0, 47, .inl (fun _ => 0)))] rfl ?_
  refine wc_aast K 2 27 [(a, .inr (4, [.ref q1, .ref q2, .int 0, .int 0, .int 0])), (q1, .inl (cA 4, 12, .inr (.inr (.inr (.inr (va_up (va_up (va_up (va_up (va_up (va_up (va_up (va_up (va_up (va_up (va_up (va_up (fun _ => none) 0 (some q3)) 1 (some q5)) 2 (some q7)) 3 (some q9)) 4 (some q11)) 5 (some q13)) 6 (some q15)) 7 (some q17)) 8 (some q19)) 9 (some q21)) 10 (some q23)) 11 (some q25))))))), (q2, .inl (cA 4, 2, .inr (.inr (.inr (.inr (va_up (fun _ => none) 0 (some q27))))))), (q3, .inr (8, [.ref (u4 0)])), (u4 0, .inl (cA 0, 47, .inl (fun _ => 0))), (q5, .inr (8, [.ref (u6 0)])), (u6 0, .inl (cA 0, 47, .inl (fun _ => 0))), (q7, .inr (8, [.ref (u8 0)])), (u8 0, .inl (cA 0, 47, .inl (fun _ => 0))), (q9, .inr (8, [.ref (u10 0)])), (u10 0, .inl (cA 0, 47, .inl (fun _ => 0))), (q11, .inr (8, [.ref (u12 0)])), (u12 0, .inl (cA 0, 47, .inl (fun _ => 0))), (q13, .inr (8, [.ref (u14 0)])), (u14 0, .inl (cA 0, 47, .inl (fun _ => 0))), (q15, .inr (8, [.ref (u16 0)])), (u16 0, .inl (cA 0, 47, .inl (fun _ => 0))), (q17, .inr (8, [.ref (u18 0)])), (u18 0, .inl (cA 0, 47, .inl (fun _ => 0))), (q19, .inr (8, [.ref (u20 0)])), (u20 0, .inl (cA 0, 47, .inl (fun _ => 0))), (q21, .inr (8, [.ref (u22 0)])), (u22 0, .inl (cA 0, 47, .inl (fun _ => 0))), (q23, .inr (8, [.ref (u24 0)])), (u24 0, .inl (cA 0, 47, .inl (fun _ => 0))), (q25, .inr (8, [.ref (u26 0)])), (u26 0, .inl (cA 0, 47, .inl (fun _ => 0))), (q27, .inr (8, [.ref (u28 0)])), (u28 0, .inl (cA 0, 47, .inl (fun _ => 0)))] rfl rfl (ix1 (j := 0) 2 (by omega)) (by decide +kernel) rfl ?_
  refine wc_iinc K 1 0 [(1, .int 1), (0, .ref a)] (v := 1) (by decide +kernel) rfl rfl (by decide) rfl ?_
  refine wc_goto K (-21) 50 (by decide +kernel) (by decide) ?_
  refine wc_iload K 1 0 (by decide +kernel) rfl ?_
  refine wc_iconst K 2 2 (by decide +kernel) rfl ?_
  refine wc_geN K (22) 74 (by decide +kernel) (by decide) (by decide) ?_
  refine wc_aload K 0 1 (by decide +kernel) rfl ?_
  refine wc_get K 15 0 4 1 rfl rfl (by decide) (by decide +kernel) rfl (by decide +kernel) ?_
  refine wc_iload K 1 0 (by decide +kernel) rfl ?_
  refine wc_new K 9 8 [.null] rfl (by decide +kernel) (by decide +kernel) (by decide +kernel) fs_8 (Nat.le_of_ble_eq_true rfl) (Nat.le_of_ble_eq_true rfl) (by decide +kernel) (fun q29 => ?_)
  refine wc_dup K (by decide +kernel) ?_
  refine wc_ctor K 18 (As := []) (st := [.ref q29, .int 1, .ref q2]) (W0 := [(a, .inr (4, [.ref q1, .ref q2, .int 0, .int 0, .int 0])), (q1, .inl (cA 4, 12, .inr (.inr (.inr (.inr (va_up (va_up (va_up (va_up (va_up (va_up (va_up (va_up (va_up (va_up (va_up (va_up (fun _ => none) 0 (some q3)) 1 (some q5)) 2 (some q7)) 3 (some q9)) 4 (some q11)) 5 (some q13)) 6 (some q15)) 7 (some q17)) 8 (some q19)) 9 (some q21)) 10 (some q23)) 11 (some q25))))))), (q2, .inl (cA 4, 2, .inr (.inr (.inr (.inr (va_up (fun _ => none) 0 (some q27))))))), (q3, .inr (8, [.ref (u4 0)])), (u4 0, .inl (cA 0, 47, .inl (fun _ => 0))), (q5, .inr (8, [.ref (u6 0)])), (u6 0, .inl (cA 0, 47, .inl (fun _ => 0))), (q7, .inr (8, [.ref (u8 0)])), (u8 0, .inl (cA 0, 47, .inl (fun _ => 0))), (q9, .inr (8, [.ref (u10 0)])), (u10 0, .inl (cA 0, 47, .inl (fun _ => 0))), (q11, .inr (8, [.ref (u12 0)])), (u12 0, .inl (cA 0, 47, .inl (fun _ => 0))), (q13, .inr (8, [.ref (u14 0)])), (u14 0, .inl (cA 0, 47, .inl (fun _ => 0))), (q15, .inr (8, [.ref (u16 0)])), (u16 0, .inl (cA 0, 47, .inl (fun _ => 0))), (q17, .inr (8, [.ref (u18 0)])), (u18 0, .inl (cA 0, 47, .inl (fun _ => 0))), (q19, .inr (8, [.ref (u20 0)])), (u20 0, .inl (cA 0, 47, .inl (fun _ => 0))), (q21, .inr (8, [.ref (u22 0)])), (u22 0, .inl (cA 0, 47, .inl (fun _ => 0))), (q23, .inr (8, [.ref (u24 0)])), (u24 0, .inl (cA 0, 47, .inl (fun _ => 0))), (q25, .inr (8, [.ref (u26 0)])), (u26 0, .inl (cA 0, 47, .inl (fun _ => 0))), (q27, .inr (8, [.ref (u28 0)])), (u28 0, .inl (cA 0, 47, .inl (fun _ => 0)))]) (n := 0) (n_X8) rfl rfl (by decide +kernel) (by decide +kernel) (by decide +kernel) (by decide +kernel) (by decide +kernel) (by decide) ⟨Nat.le_of_ble_eq_true rfl, Nat.le_of_ble_eq_true rfl⟩ (Nat.le_of_ble_eq_true rfl) (by decide +kernel) rfl (fun u30 => ?_)
  refine wc_ws [(a, .inr (4, [.ref q1, .ref q2, .int 0, .int 0, .int 0])), (q1, .inl (cA 4, 12, .inr (.inr (.inr (.inr (va_up (va_up (va_up (va_up (va_up (va_up (va_up (va_up (va_up (va_up (va_up (va_up (fun _ => none) 0 (some q3)) 1 (some q5)) 2 (some q7)) 3 (some q9)) 4 (some q11)) 5 (some q13)) 6 (some q15)) 7 (some q17)) 8 (some q19)) 9 (some q21)) 10 (some q23)) 11 (some q25))))))), (q2, .inl (cA 4, 2, .inr (.inr (.inr (.inr (va_up (fun _ => none) 0 (some q27))))))), (q3, .inr (8, [.ref (u4 0)])), (u4 0, .inl (cA 0, 47, .inl (fun _ => 0))), (q5, .inr (8, [.ref (u6 0)])), (u6 0, .inl (cA 0, 47, .inl (fun _ => 0))), (q7, .inr (8, [.ref (u8 0)])), (u8 0, .inl (cA 0, 47, .inl (fun _ => 0))), (q9, .inr (8, [.ref (u10 0)])), (u10 0, .inl (cA 0, 47, .inl (fun _ => 0))), (q11, .inr (8, [.ref (u12 0)])), (u12 0, .inl (cA 0, 47, .inl (fun _ => 0))), (q13, .inr (8, [.ref (u14 0)])), (u14 0, .inl (cA 0, 47, .inl (fun _ => 0))), (q15, .inr (8, [.ref (u16 0)])), (u16 0, .inl (cA 0, 47, .inl (fun _ => 0))), (q17, .inr (8, [.ref (u18 0)])), (u18 0, .inl (cA 0, 47, .inl (fun _ => 0))), (q19, .inr (8, [.ref (u20 0)])), (u20 0, .inl (cA 0, 47, .inl (fun _ => 0))), (q21, .inr (8, [.ref (u22 0)])), (u22 0, .inl (cA 0, 47, .inl (fun _ => 0))), (q23, .inr (8, [.ref (u24 0)])), (u24 0, .inl (cA 0, 47, .inl (fun _ => 0))), (q25, .inr (8, [.ref (u26 0)])), (u26 0, .inl (cA 0, 47, .inl (fun _ => 0))), (q27, .inr (8, [.ref (u28 0)])), (u28 0, .inl (cA 0, 47, .inl (fun _ => 0))), (q29, .inr (8, [.ref (u30 0)])), (u30 0, .inl (cA 0, 47, .inl (fun _ => 0)))] rfl ?_
  refine wc_aast K 2 29 [(a, .inr (4, [.ref q1, .ref q2, .int 0, .int 0, .int 0])), (q1, .inl (cA 4, 12, .inr (.inr (.inr (.inr (va_up (va_up (va_up (va_up (va_up (va_up (va_up (va_up (va_up (va_up (va_up (va_up (fun _ => none) 0 (some q3)) 1 (some q5)) 2 (some q7)) 3 (some q9)) 4 (some q11)) 5 (some q13)) 6 (some q15)) 7 (some q17)) 8 (some q19)) 9 (some q21)) 10 (some q23)) 11 (some q25))))))), (q2, .inl (cA 4, 2, .inr (.inr (.inr (.inr (va_up (va_up (fun _ => none) 0 (some q27)) 1 (some q29))))))), (q3, .inr (8, [.ref (u4 0)])), (u4 0, .inl (cA 0, 47, .inl (fun _ => 0))), (q5, .inr (8, [.ref (u6 0)])), (u6 0, .inl (cA 0, 47, .inl (fun _ => 0))), (q7, .inr (8, [.ref (u8 0)])), (u8 0, .inl (cA 0, 47, .inl (fun _ => 0))), (q9, .inr (8, [.ref (u10 0)])), (u10 0, .inl (cA 0, 47, .inl (fun _ => 0))), (q11, .inr (8, [.ref (u12 0)])), (u12 0, .inl (cA 0, 47, .inl (fun _ => 0))), (q13, .inr (8, [.ref (u14 0)])), (u14 0, .inl (cA 0, 47, .inl (fun _ => 0))), (q15, .inr (8, [.ref (u16 0)])), (u16 0, .inl (cA 0, 47, .inl (fun _ => 0))), (q17, .inr (8, [.ref (u18 0)])), (u18 0, .inl (cA 0, 47, .inl (fun _ => 0))), (q19, .inr (8, [.ref (u20 0)])), (u20 0, .inl (cA 0, 47, .inl (fun _ => 0))), (q21, .inr (8, [.ref (u22 0)])), (u22 0, .inl (cA 0, 47, .inl (fun _ => 0))), (q23, .inr (8, [.ref (u24 0)])), (u24 0, .inl (cA 0, 47, .inl (fun _ => 0))), (q25, .inr (8, [.ref (u26 0)])), (u26 0, .inl (cA 0, 47, .inl (fun _ => 0))), (q27, .inr (8, [.ref (u28 0)])), (u28 0, .inl (cA 0, 47, .inl (fun _ => 0))), (q29, .inr (8, [.ref (u30 0)])), (u30 0, .inl (cA 0, 47, .inl (fun _ => 0)))] rfl rfl (ix1 (j := 1) 2 (by omega)) (by decide +kernel) rfl ?_
  refine wc_iinc K 1 0 [(1, .int 2), (0, .ref a)] (v := 2) (by decide +kernel) rfl rfl (by decide) rfl ?_
  refine wc_goto K (-21) 50 (by decide +kernel) (by decide) ?_
  refine wc_iload K 1 0 (by decide +kernel) rfl ?_
  refine wc_iconst K 2 2 (by decide +kernel) rfl ?_
  refine wc_geY K (22) 74 (by decide +kernel) (by decide) (by decide) ?_
  refine wc_ref 1 [(a, .inr (4, [.ref q1, .ref q2, .int 0, .int 0, .int 0])), (q1, .inl (cA 4, 12, .inr (.inr (.inr (.inr (fun i => some (([q1, q2, q3, u4 0, q5, u6 0, q7, u8 0, q9, u10 0, q11, u12 0, q13, u14 0, q15, u16 0, q17, u18 0, q19, u20 0, q21, u22 0, q23, u24 0, q25, u26 0, q27, u28 0, q29, u30 0] : List Nat).getD (2 + 2 * i) 0))))))), (q2, .inl (cA 4, 2, .inr (.inr (.inr (.inr (va_up (va_up (fun _ => none) 0 (some q27)) 1 (some q29))))))), (q3, .inr (8, [.ref (u4 0)])), (u4 0, .inl (cA 0, 47, .inl (fun _ => 0))), (q5, .inr (8, [.ref (u6 0)])), (u6 0, .inl (cA 0, 47, .inl (fun _ => 0))), (q7, .inr (8, [.ref (u8 0)])), (u8 0, .inl (cA 0, 47, .inl (fun _ => 0))), (q9, .inr (8, [.ref (u10 0)])), (u10 0, .inl (cA 0, 47, .inl (fun _ => 0))), (q11, .inr (8, [.ref (u12 0)])), (u12 0, .inl (cA 0, 47, .inl (fun _ => 0))), (q13, .inr (8, [.ref (u14 0)])), (u14 0, .inl (cA 0, 47, .inl (fun _ => 0))), (q15, .inr (8, [.ref (u16 0)])), (u16 0, .inl (cA 0, 47, .inl (fun _ => 0))), (q17, .inr (8, [.ref (u18 0)])), (u18 0, .inl (cA 0, 47, .inl (fun _ => 0))), (q19, .inr (8, [.ref (u20 0)])), (u20 0, .inl (cA 0, 47, .inl (fun _ => 0))), (q21, .inr (8, [.ref (u22 0)])), (u22 0, .inl (cA 0, 47, .inl (fun _ => 0))), (q23, .inr (8, [.ref (u24 0)])), (u24 0, .inl (cA 0, 47, .inl (fun _ => 0))), (q25, .inr (8, [.ref (u26 0)])), (u26 0, .inl (cA 0, 47, .inl (fun _ => 0))), (q27, .inr (8, [.ref (u28 0)])), (u28 0, .inl (cA 0, 47, .inl (fun _ => 0))), (q29, .inr (8, [.ref (u30 0)])), (u30 0, .inl (cA 0, 47, .inl (fun _ => 0)))] rfl (fun i hi => by
    match i, hi with
    | 0, _ => rfl
    | 1, _ => rfl
    | 2, _ => rfl
    | 3, _ => rfl
    | 4, _ => rfl
    | 5, _ => rfl
    | 6, _ => rfl
    | 7, _ => rfl
    | 8, _ => rfl
    | 9, _ => rfl
    | 10, _ => rfl
    | 11, _ => rfl
    | i + 12, hi => exact absurd hi (by omega)) rfl ?_
  refine wc_ref 2 [(a, .inr (4, [.ref q1, .ref q2, .int 0, .int 0, .int 0])), (q1, .inl (cA 4, 12, .inr (.inr (.inr (.inr (fun i => some (([q1, q2, q3, u4 0, q5, u6 0, q7, u8 0, q9, u10 0, q11, u12 0, q13, u14 0, q15, u16 0, q17, u18 0, q19, u20 0, q21, u22 0, q23, u24 0, q25, u26 0, q27, u28 0, q29, u30 0] : List Nat).getD (2 + 2 * i) 0))))))), (q2, .inl (cA 4, 2, .inr (.inr (.inr (.inr (fun i => some (([q1, q2, q3, u4 0, q5, u6 0, q7, u8 0, q9, u10 0, q11, u12 0, q13, u14 0, q15, u16 0, q17, u18 0, q19, u20 0, q21, u22 0, q23, u24 0, q25, u26 0, q27, u28 0, q29, u30 0] : List Nat).getD (26 + 2 * i) 0))))))), (q3, .inr (8, [.ref (u4 0)])), (u4 0, .inl (cA 0, 47, .inl (fun _ => 0))), (q5, .inr (8, [.ref (u6 0)])), (u6 0, .inl (cA 0, 47, .inl (fun _ => 0))), (q7, .inr (8, [.ref (u8 0)])), (u8 0, .inl (cA 0, 47, .inl (fun _ => 0))), (q9, .inr (8, [.ref (u10 0)])), (u10 0, .inl (cA 0, 47, .inl (fun _ => 0))), (q11, .inr (8, [.ref (u12 0)])), (u12 0, .inl (cA 0, 47, .inl (fun _ => 0))), (q13, .inr (8, [.ref (u14 0)])), (u14 0, .inl (cA 0, 47, .inl (fun _ => 0))), (q15, .inr (8, [.ref (u16 0)])), (u16 0, .inl (cA 0, 47, .inl (fun _ => 0))), (q17, .inr (8, [.ref (u18 0)])), (u18 0, .inl (cA 0, 47, .inl (fun _ => 0))), (q19, .inr (8, [.ref (u20 0)])), (u20 0, .inl (cA 0, 47, .inl (fun _ => 0))), (q21, .inr (8, [.ref (u22 0)])), (u22 0, .inl (cA 0, 47, .inl (fun _ => 0))), (q23, .inr (8, [.ref (u24 0)])), (u24 0, .inl (cA 0, 47, .inl (fun _ => 0))), (q25, .inr (8, [.ref (u26 0)])), (u26 0, .inl (cA 0, 47, .inl (fun _ => 0))), (q27, .inr (8, [.ref (u28 0)])), (u28 0, .inl (cA 0, 47, .inl (fun _ => 0))), (q29, .inr (8, [.ref (u30 0)])), (u30 0, .inl (cA 0, 47, .inl (fun _ => 0)))] rfl (fun i hi => by
    match i, hi with
    | 0, _ => rfl
    | 1, _ => rfl
    | i + 2, hi => exact absurd hi (by omega)) rfl ?_
  exact hR 74 _ (fun i => ([q1, q2, q3, u4 0, q5, u6 0, q7, u8 0, q9, u10 0, q11, u12 0, q13, u14 0, q15, u16 0, q17, u18 0, q19, u20 0, q21, u22 0, q23, u24 0, q25, u26 0, q27, u28 0, q29, u30 0] : List Nat).getD i 0) 30 686 (by decide +kernel) (by decide) (by decide)
def W_X7 (x0 : Nat) (cA : Nat → ClassId) (a : Nat) (u : Nat → Nat) : va_W := [(a, .inr (7, [.ref x0, .ref (u 0), .ref (u 1), .ref (u 2), .ref (u 3), .ref (u 4), .int 0, .int 0, .int 0, .int 0, .int 0])), (u 0, .inl (cA 4, 5, .inr (.inr (.inr (.inr (fun i => some (u (5 + 2 * i)))))))), (u 1, .inl (cA 0, 64, .inl (fun _ => 0))), (u 2, .inl (cA 0, 64, .inl (fun _ => 0))), (u 3, .inl (cA 0, 4, .inl (fun _ => 0))), (u 4, .inl (cA 0, 4, .inl (fun _ => 0))), (u 5, .inr (8, [.ref (u 6)])), (u 6, .inl (cA 0, 47, .inl (fun _ => 0))), (u 7, .inr (8, [.ref (u 8)])), (u 8, .inl (cA 0, 47, .inl (fun _ => 0))), (u 9, .inr (8, [.ref (u 10)])), (u 10, .inl (cA 0, 47, .inl (fun _ => 0))), (u 11, .inr (8, [.ref (u 12)])), (u 12, .inl (cA 0, 47, .inl (fun _ => 0))), (u 13, .inr (8, [.ref (u 14)])), (u 14, .inl (cA 0, 47, .inl (fun _ => 0)))]
set_option maxHeartbeats 8000000 in
set_option maxRecDepth 20000 in
theorem n_X7 {ts : Nat → Nat → Nat} (x0 : Nat) : CN ts mX7_init 2 15 381 [.ref x0] 7 [.null, .null, .null, .null, .null, .null, .int 0, .int 0, .int 0, .int 0, .int 0] (W_X7 x0) := by
  refine cn_wc (fun a => [(0, .ref a), (1, .ref x0)]) (by decide) rfl (fun a => Nat.le_of_ble_eq_true rfl) (fun a => rfl) ?_ rfl
  intro p l e s m args below meth c D cA A Q a K hR
  refine wc_aload K 0 0 (by decide +kernel) rfl ?_
  refine wc_obj K 3 (by decide) (by decide +kernel) (by decide +kernel) ?_
  refine wc_aload K 0 0 (by decide +kernel) rfl ?_
  refine wc_iconst K 5 5 (by decide +kernel) rfl ?_
  refine wc_newq K 11 5 (by decide +kernel) (by decide) rfl (by decide) (Nat.le_of_ble_eq_true rfl) (Nat.le_of_ble_eq_true rfl) (by decide +kernel) (fun q1 => ?_)
  refine wc_ws [(a, .inr (7, [.null, .null, .null, .null, .null, .null, .int 0, .int 0, .int 0, .int 0, .int 0])), (q1, .inl (cA 4, 5, .inr (.inr (.inr (.inr (fun _ => none))))))] rfl ?_
  refine wc_putF K 13 0 7 1 [(a, .inr (7, [.null, .ref q1, .null, .null, .null, .null, .int 0, .int 0, .int 0, .int 0, .int 0])), (q1, .inl (cA 4, 5, .inr (.inr (.inr (.inr (fun _ => none))))))] rfl rfl (by decide) (by decide +kernel) rfl rfl rfl rfl rfl (by simp) (by decide +kernel) rfl ?_
  refine wc_aload K 0 0 (by decide +kernel) rfl ?_
  refine wc_bipush K 64 64 (by decide +kernel) rfl ?_
  refine wc_newi K 64 (by decide) rfl (by decide) (Nat.le_of_ble_eq_true rfl) (Nat.le_of_ble_eq_true rfl) (by decide +kernel) (fun q2 => ?_)
  refine wc_ws [(a, .inr (7, [.null, .ref q1, .null, .null, .null, .null, .int 0, .int 0, .int 0, .int 0, .int 0])), (q1, .inl (cA 4, 5, .inr (.inr (.inr (.inr (fun _ => none)))))), (q2, .inl (cA 0, 64, .inl (fun _ => 0)))] rfl ?_
  refine wc_putF K 17 0 7 2 [(a, .inr (7, [.null, .ref q1, .ref q2, .null, .null, .null, .int 0, .int 0, .int 0, .int 0, .int 0])), (q1, .inl (cA 4, 5, .inr (.inr (.inr (.inr (fun _ => none)))))), (q2, .inl (cA 0, 64, .inl (fun _ => 0)))] rfl rfl (by decide) (by decide +kernel) rfl rfl rfl rfl rfl (by simp) (by decide +kernel) rfl ?_
  refine wc_aload K 0 0 (by decide +kernel) rfl ?_
  refine wc_bipush K 64 64 (by decide +kernel) rfl ?_
  refine wc_newi K 64 (by decide) rfl (by decide) (Nat.le_of_ble_eq_true rfl) (Nat.le_of_ble_eq_true rfl) (by decide +kernel) (fun q3 => ?_)
  refine wc_ws [(a, .inr (7, [.null, .ref q1, .ref q2, .null, .null, .null, .int 0, .int 0, .int 0, .int 0, .int 0])), (q1, .inl (cA 4, 5, .inr (.inr (.inr (.inr (fun _ => none)))))), (q2, .inl (cA 0, 64, .inl (fun _ => 0))), (q3, .inl (cA 0, 64, .inl (fun _ => 0)))] rfl ?_
  refine wc_putF K 21 0 7 3 [(a, .inr (7, [.null, .ref q1, .ref q2, .ref q3, .null, .null, .int 0, .int 0, .int 0, .int 0, .int 0])), (q1, .inl (cA 4, 5, .inr (.inr (.inr (.inr (fun _ => none)))))), (q2, .inl (cA 0, 64, .inl (fun _ => 0))), (q3, .inl (cA 0, 64, .inl (fun _ => 0)))] rfl rfl (by decide) (by decide +kernel) rfl rfl rfl rfl rfl (by simp) (by decide +kernel) rfl ?_
  refine wc_aload K 0 0 (by decide +kernel) rfl ?_
  refine wc_iconst K 4 4 (by decide +kernel) rfl ?_
  refine wc_newi K 4 (by decide) rfl (by decide) (Nat.le_of_ble_eq_true rfl) (Nat.le_of_ble_eq_true rfl) (by decide +kernel) (fun q4 => ?_)
  refine wc_ws [(a, .inr (7, [.null, .ref q1, .ref q2, .ref q3, .null, .null, .int 0, .int 0, .int 0, .int 0, .int 0])), (q1, .inl (cA 4, 5, .inr (.inr (.inr (.inr (fun _ => none)))))), (q2, .inl (cA 0, 64, .inl (fun _ => 0))), (q3, .inl (cA 0, 64, .inl (fun _ => 0))), (q4, .inl (cA 0, 4, .inl (fun _ => 0)))] rfl ?_
  refine wc_putF K 24 0 7 4 [(a, .inr (7, [.null, .ref q1, .ref q2, .ref q3, .ref q4, .null, .int 0, .int 0, .int 0, .int 0, .int 0])), (q1, .inl (cA 4, 5, .inr (.inr (.inr (.inr (fun _ => none)))))), (q2, .inl (cA 0, 64, .inl (fun _ => 0))), (q3, .inl (cA 0, 64, .inl (fun _ => 0))), (q4, .inl (cA 0, 4, .inl (fun _ => 0)))] rfl rfl (by decide) (by decide +kernel) rfl rfl rfl rfl rfl (by simp) (by decide +kernel) rfl ?_
  refine wc_aload K 0 0 (by decide +kernel) rfl ?_
  refine wc_iconst K 4 4 (by decide +kernel) rfl ?_
  refine wc_newi K 4 (by decide) rfl (by decide) (Nat.le_of_ble_eq_true rfl) (Nat.le_of_ble_eq_true rfl) (by decide +kernel) (fun q5 => ?_)
  refine wc_ws [(a, .inr (7, [.null, .ref q1, .ref q2, .ref q3, .ref q4, .null, .int 0, .int 0, .int 0, .int 0, .int 0])), (q1, .inl (cA 4, 5, .inr (.inr (.inr (.inr (fun _ => none)))))), (q2, .inl (cA 0, 64, .inl (fun _ => 0))), (q3, .inl (cA 0, 64, .inl (fun _ => 0))), (q4, .inl (cA 0, 4, .inl (fun _ => 0))), (q5, .inl (cA 0, 4, .inl (fun _ => 0)))] rfl ?_
  refine wc_putF K 27 0 7 5 [(a, .inr (7, [.null, .ref q1, .ref q2, .ref q3, .ref q4, .ref q5, .int 0, .int 0, .int 0, .int 0, .int 0])), (q1, .inl (cA 4, 5, .inr (.inr (.inr (.inr (fun _ => none)))))), (q2, .inl (cA 0, 64, .inl (fun _ => 0))), (q3, .inl (cA 0, 64, .inl (fun _ => 0))), (q4, .inl (cA 0, 4, .inl (fun _ => 0))), (q5, .inl (cA 0, 4, .inl (fun _ => 0)))] rfl rfl (by decide) (by decide +kernel) rfl rfl rfl rfl rfl (by simp) (by decide +kernel) rfl ?_
  refine wc_aload K 0 0 (by decide +kernel) rfl ?_
  refine wc_aload K 1 1 (by decide +kernel) rfl ?_
  refine wc_putF K 30 0 7 0 [(a, .inr (7, [.ref x0, .ref q1, .ref q2, .ref q3, .ref q4, .ref q5, .int 0, .int 0, .int 0, .int 0, .int 0])), (q1, .inl (cA 4, 5, .inr (.inr (.inr (.inr (fun _ => none)))))), (q2, .inl (cA 0, 64, .inl (fun _ => 0))), (q3, .inl (cA 0, 64, .inl (fun _ => 0))), (q4, .inl (cA 0, 4, .inl (fun _ => 0))), (q5, .inl (cA 0, 4, .inl (fun _ => 0)))] rfl rfl (by decide) (by decide +kernel) rfl rfl rfl rfl rfl (by simp) (by decide +kernel) rfl ?_
  refine wc_iconst K 0 0 (by decide +kernel) rfl ?_
  refine wc_istore K 2 [(2, .int 0), (0, .ref a), (1, .ref x0)] (by decide +kernel) (by decide) rfl ?_
  refine wc_iload K 2 0 (by decide +kernel) rfl ?_
  refine wc_iconst K 4 4 (by decide +kernel) rfl ?_
  refine wc_gtN K (22) 73 (by decide +kernel) (by decide) (by decide) ?_
  refine wc_aload K 0 1 (by decide +kernel) rfl ?_
  refine wc_get K 13 0 7 1 rfl rfl (by decide) (by decide +kernel) rfl (by decide +kernel) ?_
  refine wc_iload K 2 0 (by decide +kernel) rfl ?_
  refine wc_new K 11 8 [.null] rfl (by decide +kernel) (by decide +kernel) (by decide +kernel) fs_8 (Nat.le_of_ble_eq_true rfl) (Nat.le_of_ble_eq_true rfl) (by decide +kernel) (fun q6 => ?_)
  refine wc_dup K (by decide +kernel) ?_
  refine wc_ctor K 34 (As := []) (st := [.ref q6, .int 0, .ref q1]) (W0 := [(a, .inr (7, [.ref x0, .ref q1, .ref q2, .ref q3, .ref q4, .ref q5, .int 0, .int 0, .int 0, .int 0, .int 0])), (q1, .inl (cA 4, 5, .inr (.inr (.inr (.inr (fun _ => none)))))), (q2, .inl (cA 0, 64, .inl (fun _ => 0))), (q3, .inl (cA 0, 64, .inl (fun _ => 0))), (q4, .inl (cA 0, 4, .inl (fun _ => 0))), (q5, .inl (cA 0, 4, .inl (fun _ => 0)))]) (n := 0) (n_X8) rfl rfl (by decide +kernel) (by decide +kernel) (by decide +kernel) (by decide +kernel) (by decide +kernel) (by decide) ⟨Nat.le_of_ble_eq_true rfl, Nat.le_of_ble_eq_true rfl⟩ (Nat.le_of_ble_eq_true rfl) (by decide +kernel) rfl (fun u7 => ?_)
  refine wc_ws [(a, .inr (7, [.ref x0, .ref q1, .ref q2, .ref q3, .ref q4, .ref q5, .int 0, .int 0, .int 0, .int 0, .int 0])), (q1, .inl (cA 4, 5, .inr (.inr (.inr (.inr (fun _ => none)))))), (q2, .inl (cA 0, 64, .inl (fun _ => 0))), (q3, .inl (cA 0, 64, .inl (fun _ => 0))), (q4, .inl (cA 0, 4, .inl (fun _ => 0))), (q5, .inl (cA 0, 4, .inl (fun _ => 0))), (q6, .inr (8, [.ref (u7 0)])), (u7 0, .inl (cA 0, 47, .inl (fun _ => 0)))] rfl ?_
  refine wc_aast K 1 6 [(a, .inr (7, [.ref x0, .ref q1, .ref q2, .ref q3, .ref q4, .ref q5, .int 0, .int 0, .int 0, .int 0, .int 0])), (q1, .inl (cA 4, 5, .inr (.inr (.inr (.inr (va_up (fun _ => none) 0 (some q6))))))), (q2, .inl (cA 0, 64, .inl (fun _ => 0))), (q3, .inl (cA 0, 64, .inl (fun _ => 0))), (q4, .inl (cA 0, 4, .inl (fun _ => 0))), (q5, .inl (cA 0, 4, .inl (fun _ => 0))), (q6, .inr (8, [.ref (u7 0)])), (u7 0, .inl (cA 0, 47, .inl (fun _ => 0)))] rfl rfl (ix1 (j := 0) 5 (by omega)) (by decide +kernel) rfl ?_
  refine wc_iinc K 2 0 [(2, .int 1), (0, .ref a), (1, .ref x0)] (v := 1) (by decide +kernel) rfl rfl (by decide) rfl ?_
  refine wc_goto K (-21) 49 (by decide +kernel) (by decide) ?_
  refine wc_iload K 2 0 (by decide +kernel) rfl ?_
  refine wc_iconst K 4 4 (by decide +kernel) rfl ?_
  refine wc_gtN K (22) 73 (by decide +kernel) (by decide) (by decide) ?_
  refine wc_aload K 0 1 (by decide +kernel) rfl ?_
  refine wc_get K 13 0 7 1 rfl rfl (by decide) (by decide +kernel) rfl (by decide +kernel) ?_
  refine wc_iload K 2 0 (by decide +kernel) rfl ?_
  refine wc_new K 11 8 [.null] rfl (by decide +kernel) (by decide +kernel) (by decide +kernel) fs_8 (Nat.le_of_ble_eq_true rfl) (Nat.le_of_ble_eq_true rfl) (by decide +kernel) (fun q8 => ?_)
  refine wc_dup K (by decide +kernel) ?_
  refine wc_ctor K 34 (As := []) (st := [.ref q8, .int 1, .ref q1]) (W0 := [(a, .inr (7, [.ref x0, .ref q1, .ref q2, .ref q3, .ref q4, .ref q5, .int 0, .int 0, .int 0, .int 0, .int 0])), (q1, .inl (cA 4, 5, .inr (.inr (.inr (.inr (va_up (fun _ => none) 0 (some q6))))))), (q2, .inl (cA 0, 64, .inl (fun _ => 0))), (q3, .inl (cA 0, 64, .inl (fun _ => 0))), (q4, .inl (cA 0, 4, .inl (fun _ => 0))), (q5, .inl (cA 0, 4, .inl (fun _ => 0))), (q6, .inr (8, [.ref (u7 0)])), (u7 0, .inl (cA 0, 47, .inl (fun _ => 0)))]) (n := 0) (n_X8) rfl rfl (by decide +kernel) (by decide +kernel) (by decide +kernel) (by decide +kernel) (by decide +kernel) (by decide) ⟨Nat.le_of_ble_eq_true rfl, Nat.le_of_ble_eq_true rfl⟩ (Nat.le_of_ble_eq_true rfl) (by decide +kernel) rfl (fun u9 => ?_)
  refine wc_ws [(a, .inr (7, [.ref x0, .ref q1, .ref q2, .ref q3, .ref q4, .ref q5, .int 0, .int 0, .int 0, .int 0, .int 0])), (q1, .inl (cA 4, 5, .inr (.inr (.inr (.inr (va_up (fun _ => none) 0 (some q6))))))), (q2, .inl (cA 0, 64, .inl (fun _ => 0))), (q3, .inl (cA 0, 64, .inl (fun _ => 0))), (q4, .inl (cA 0, 4, .inl (fun _ => 0))), (q5, .inl (cA 0, 4, .inl (fun _ => 0))), (q6, .inr (8, [.ref (u7 0)])), (u7 0, .inl (cA 0, 47, .inl (fun _ => 0))), (q8, .inr (8, [.ref (u9 0)])), (u9 0, .inl (cA 0, 47, .inl (fun _ => 0)))] rfl ?_
  refine wc_aast K 1 8 [(a, .inr (7, [.ref x0, .ref q1, .ref q2, .ref q3, .ref q4, .ref q5, .int 0, .int 0, .int 0, .int 0, .int 0])), (q1, .inl (cA 4, 5, .inr (.inr (.inr (.inr (va_up (va_up (fun _ => none) 0 (some q6)) 1 (some q8))))))), (q2, .inl (cA 0, 64, .inl (fun _ => 0))), (q3, .inl (cA 0, 64, .inl (fun _ => 0))), (q4, .inl (cA 0, 4, .inl (fun _ => 0))), (q5, .inl (cA 0, 4, .inl (fun _ => 0))), (q6, .inr (8, [.ref (u7 0)])), (u7 0, .inl (cA 0, 47, .inl (fun _ => 0))), (q8, .inr (8, [.ref (u9 0)])), (u9 0, .inl (cA 0, 47, .inl (fun _ => 0)))] rfl rfl (ix1 (j := 1) 5 (by omega)) (by decide +kernel) rfl ?_
  refine wc_iinc K 2 0 [(2, .int 2), (0, .ref a), (1, .ref x0)] (v := 2) (by decide +kernel) rfl rfl (by decide) rfl ?_
  refine wc_goto K (-21) 49 (by decide +kernel) (by decide) ?_
  refine wc_iload K 2 0 (by decide +kernel) rfl ?_
  refine wc_iconst K 4 4 (by decide +kernel) rfl ?_
  refine wc_gtN K (22) 73 (by decide +kernel) (by decide) (by decide) ?_
  refine wc_aload K 0 1 (by decide +kernel) rfl ?_
  refine wc_get K 13 0 7 1 rfl rfl (by decide) (by decide +kernel) rfl (by decide +kernel) ?_
  refine wc_iload K 2 0 (by decide +kernel) rfl ?_
  refine wc_new K 11 8 [.null] rfl (by decide +kernel) (by decide +kernel) (by decide +kernel) fs_8 (Nat.le_of_ble_eq_true rfl) (Nat.le_of_ble_eq_true rfl) (by decide +kernel) (fun q10 => ?_)
  refine wc_dup K (by decide +kernel) ?_
  refine wc_ctor K 34 (As := []) (st := [.ref q10, .int 2, .ref q1]) (W0 := [(a, .inr (7, [.ref x0, .ref q1, .ref q2, .ref q3, .ref q4, .ref q5, .int 0, .int 0, .int 0, .int 0, .int 0])), (q1, .inl (cA 4, 5, .inr (.inr (.inr (.inr (va_up (va_up (fun _ => none) 0 (some q6)) 1 (some q8))))))), (q2, .inl (cA 0, 64, .inl (fun _ => 0))), (q3, .inl (cA 0, 64, .inl (fun _ => 0))), (q4, .inl (cA 0, 4, .inl (fun _ => 0))), (q5, .inl (cA 0, 4, .inl (fun _ => 0))), (q6, .inr (8, [.ref (u7 0)])), (u7 0, .inl (cA 0, 47, .inl (fun _ => 0))), (q8, .inr (8, [.ref (u9 0)])), (u9 0, .inl (cA 0, 47, .inl (fun _ => 0)))]) (n := 0) (n_X8) rfl rfl (by decide +kernel) (by decide +kernel) (by decide +kernel) (by decide +kernel) (by decide +kernel) (by decide) ⟨Nat.le_of_ble_eq_true rfl, Nat.le_of_ble_eq_true rfl⟩ (Nat.le_of_ble_eq_true rfl) (by decide +kernel) rfl (fun u11 => ?_)
  refine wc_ws [(a, .inr (7, [.ref x0, .ref q1, .ref q2, .ref q3, .ref q4, .ref q5, .int 0, .int 0, .int 0, .int 0, .int 0])), (q1, .inl (cA 4, 5, .inr (.inr (.inr (.inr (va_up (va_up (fun _ => none) 0 (some q6)) 1 (some q8))))))), (q2, .inl (cA 0, 64, .inl (fun _ => 0))), (q3, .inl (cA 0, 64, .inl (fun _ => 0))), (q4, .inl (cA 0, 4, .inl (fun _ => 0))), (q5, .inl (cA 0, 4, .inl (fun _ => 0))), (q6, .inr (8, [.ref (u7 0)])), (u7 0, .inl (cA 0, 47, .inl (fun _ => 0))), (q8, .inr (8, [.ref (u9 0)])), (u9 0, .inl (cA 0, 47, .inl (fun _ => 0))), (q10, .inr (8, [.ref (u11 0)])), (u11 0, .inl (cA 0, 47, .inl (fun _ => 0)))] rfl ?_
  refine wc_aast K 1 10 [(a, .inr (7, [.ref x0, .ref q1, .ref q2, .ref q3, .ref q4, .ref q5, .int 0, .int 0, .int 0, .int 0, .int 0])), (q1, .inl (cA 4, 5, .inr (.inr (.inr (.inr (va_up (va_up (va_up (fun _ => none) 0 (some q6)) 1 (some q8)) 2 (some q10))))))), (q2, .inl (cA 0, 64, .inl (fun _ => 0))), (q3, .inl (cA 0, 64, .inl (fun _ => 0))), (q4, .inl (cA 0, 4, .inl (fun _ => 0))), (q5, .inl (cA 0, 4, .inl (fun _ => 0))), (q6, .inr (8, [.ref (u7 0)])), (u7 0, .inl (cA 0, 47, .inl (fun _ => 0))), (q8, .inr (8, [.ref (u9 0)])), (u9 0, .inl (cA 0, 47, .inl (fun _ => 0))), (q10, .inr (8, [.ref (u11 0)])), (u11 0, .inl (cA 0, 47, .inl (fun _ => 0)))] rfl rfl (ix1 (j := 2) 5 (by omega)) (by decide +kernel) rfl ?_
  refine wc_iinc K 2 0 [(2, .int 3), (0, .ref a), (1, .ref x0)] (v := 3) (by decide +kernel) rfl rfl (by decide) rfl ?_
  refine wc_goto K (-21) 49 (by decide +kernel) (by decide) ?_
  refine wc_iload K 2 0 (by decide +kernel) rfl ?_
  refine wc_iconst K 4 4 (by decide +kernel) rfl ?_
  refine wc_gtN K (22) 73 (by decide +kernel) (by decide) (by decide) ?_
  refine wc_aload K 0 1 (by decide +kernel) rfl ?_
  refine wc_get K 13 0 7 1 rfl rfl (by decide) (by decide +kernel) rfl (by decide +kernel) ?_
  refine wc_iload K 2 0 (by decide +kernel) rfl ?_
  refine wc_new K 11 8 [.null] rfl (by decide +kernel) (by decide +kernel) (by decide +kernel) fs_8 (Nat.le_of_ble_eq_true rfl) (Nat.le_of_ble_eq_true rfl) (by decide +kernel) (fun q12 => ?_)
  refine wc_dup K (by decide +kernel) ?_
  refine wc_ctor K 34 (As := []) (st := [.ref q12, .int 3, .ref q1]) (W0 := [(a, .inr (7, [.ref x0, .ref q1, .ref q2, .ref q3, .ref q4, .ref q5, .int 0, .int 0, .int 0, .int 0, .int 0])), (q1, .inl (cA 4, 5, .inr (.inr (.inr (.inr (va_up (va_up (va_up (fun _ => none) 0 (some q6)) 1 (some q8)) 2 (some q10))))))), (q2, .inl (cA 0, 64, .inl (fun _ => 0))), (q3, .inl (cA 0, 64, .inl (fun _ => 0))), (q4, .inl (cA 0, 4, .inl (fun _ => 0))), (q5, .inl (cA 0, 4, .inl (fun _ => 0))), (q6, .inr (8, [.ref (u7 0)])), (u7 0, .inl (cA 0, 47, .inl (fun _ => 0))), (q8, .inr (8, [.ref (u9 0)])), (u9 0, .inl (cA 0, 47, .inl (fun _ => 0))), (q10, .inr (8, [.ref (u11 0)])), (u11 0, .inl (cA 0, 47, .inl (fun _ => 0)))]) (n := 0) (n_X8) rfl rfl (by decide +kernel) (by decide +kernel) (by decide +kernel) (by decide +kernel) (by decide +kernel) (by decide) ⟨Nat.le_of_ble_eq_true rfl, Nat.le_of_ble_eq_true rfl⟩ (Nat.le_of_ble_eq_true rfl) (by decide +kernel) rfl (fun u13 => ?_)
  refine wc_ws [(a, .inr (7, [.ref x0, .ref q1, .ref q2, .ref q3, .ref q4, .ref q5, .int 0, .int 0, .int 0, .int 0, .int 0])), (q1, .inl (cA 4, 5, .inr (.inr (.inr (.inr (va_up (va_up (va_up (fun _ => none) 0 (some q6)) 1 (some q8)) 2 (some q10))))))), (q2, .inl (cA 0, 64, .inl (fun _ => 0))), (q3, .inl (cA 0, 64, .inl (fun _ => 0))), (q4, .inl (cA 0, 4, .inl (fun _ => 0))), (q5, .inl (cA 0, 4, .inl (fun _ => 0))), (q6, .inr (8, [.ref (u7 0)])), (u7 0, .inl (cA 0, 47, .inl (fun _ => 0))), (q8, .inr (8, [.ref (u9 0)])), (u9 0, .inl (cA 0, 47, .inl (fun _ => 0))), (q10, .inr (8, [.ref (u11 0)])), (u11 0, .inl (cA 0, 47, .inl (fun _ => 0))), (q12, .inr (8, [.ref (u13 0)])), (u13 0, .inl (cA 0, 47, .inl (fun _ => 0)))] rfl ?_
  refine wc_aast K 1 12 [(a, .inr (7, [.ref x0, .ref q1, .ref q2, .ref q3, .ref q4, .ref q5, .int 0, .int 0, .int 0, .int 0, .int 0])), (q1, .inl (cA 4, 5, .inr (.inr (.inr (.inr (va_up (va_up (va_up (va_up (fun _ => none) 0 (some q6)) 1 (some q8)) 2 (some q10)) 3 (some q12))))))), (q2, .inl (cA 0, 64, .inl (fun _ => 0))), (q3, .inl (cA 0, 64, .inl (fun _ => 0))), (q4, .inl (cA 0, 4, .inl (fun _ => 0))), (q5, .inl (cA 0, 4, .inl (fun _ => 0))), (q6, .inr (8, [.ref (u7 0)])), (u7 0, .inl (cA 0, 47, .inl (fun _ => 0))), (q8, .inr (8, [.ref (u9 0)])), (u9 0, .inl (cA 0, 47, .inl (fun _ => 0))), (q10, .inr (8, [.ref (u11 0)])), (u11 0, .inl (cA 0, 47, .inl (fun _ => 0))), (q12, .inr (8, [.ref (u13 0)])), (u13 0, .inl (cA 0, 47, .inl (fun _ => 0)))] rfl rfl (ix1 (j := 3) 5 (by omega)) (by decide +kernel) rfl ?_
  refine wc_iinc K 2 0 [(2, .int 4), (0, .ref a), (1, .ref x0)] (v := 4) (by decide +kernel) rfl rfl (by decide) rfl ?_
  refine wc_goto K (-21) 49 (by decide +kernel) (by decide) ?_
  refine wc_iload K 2 0 (by decide +kernel) rfl ?_
  refine wc_iconst K 4 4 (by decide +kernel) rfl ?_
  refine wc_gtN K (22) 73 (by decide +kernel) (by decide) (by decide) ?_
  refine wc_aload K 0 1 (by decide +kernel) rfl ?_
  refine wc_get K 13 0 7 1 rfl rfl (by decide) (by decide +kernel) rfl (by decide +kernel) ?_
  refine wc_iload K 2 0 (by decide +kernel) rfl ?_
  refine wc_new K 11 8 [.null] rfl (by decide +kernel) (by decide +kernel) (by decide +kernel) fs_8 (Nat.le_of_ble_eq_true rfl) (Nat.le_of_ble_eq_true rfl) (by decide +kernel) (fun q14 => ?_)
  refine wc_dup K (by decide +kernel) ?_
  refine wc_ctor K 34 (As := []) (st := [.ref q14, .int 4, .ref q1]) (W0 := [(a, .inr (7, [.ref x0, .ref q1, .ref q2, .ref q3, .ref q4, .ref q5, .int 0, .int 0, .int 0, .int 0, .int 0])), (q1, .inl (cA 4, 5, .inr (.inr (.inr (.inr (va_up (va_up (va_up (va_up (fun _ => none) 0 (some q6)) 1 (some q8)) 2 (some q10)) 3 (some q12))))))), (q2, .inl (cA 0, 64, .inl (fun _ => 0))), (q3, .inl (cA 0, 64, .inl (fun _ => 0))), (q4, .inl (cA 0, 4, .inl (fun _ => 0))), (q5, .inl (cA 0, 4, .inl (fun _ => 0))), (q6, .inr (8, [.ref (u7 0)])), (u7 0, .inl (cA 0, 47, .inl (fun _ => 0))), (q8, .inr (8, [.ref (u9 0)])), (u9 0, .inl (cA 0, 47, .inl (fun _ => 0))), (q10, .inr (8, [.ref (u11 0)])), (u11 0, .inl (cA 0, 47, .inl (fun _ => 0))), (q12, .inr (8, [.ref (u13 0)])), (u13 0, .inl (cA 0, 47, .inl (fun _ => 0)))]) (n := 0) (n_X8) rfl rfl (by decide +kernel) (by decide +kernel) (by decide +kernel) (by decide +kernel) (by decide +kernel) (by decide) ⟨Nat.le_of_ble_eq_true rfl, Nat.le_of_ble_eq_true rfl⟩ (Nat.le_of_ble_eq_true rfl) (by decide +kernel) rfl (fun u15 => ?_)
  refine wc_ws [(a, .inr (7, [.ref x0, .ref q1, .ref q2, .ref q3, .ref q4, .ref q5, .int 0, .int 0, .int 0, .int 0, .int 0])), (q1, .inl (cA 4, 5, .inr (.inr (.inr (.inr (va_up (va_up (va_up (va_up (fun _ => none) 0 (some q6)) 1 (some q8)) 2 (some q10)) 3 (some q12))))))), (q2, .inl (cA 0, 64, .inl (fun _ => 0))), (q3, .inl (cA 0, 64, .inl (fun _ => 0))), (q4, .inl (cA 0, 4, .inl (fun _ => 0))), (q5, .inl (cA 0, 4, .inl (fun _ => 0))), (q6, .inr (8, [.ref (u7 0)])), (u7 0, .inl (cA 0, 47, .inl (fun _ => 0))), (q8, .inr (8, [.ref (u9 0)])), (u9 0, .inl (cA 0, 47, .inl (fun _ => 0))), (q10, .inr (8, [.ref (u11 0)])), (u11 0, .inl (cA 0, 47, .inl (fun _ => 0))), (q12, .inr (8, [.ref (u13 0)])), (u13 0, .inl (cA 0, 47, .inl (fun _ => 0))), (q14, .inr (8, [.ref (u15 0)])), (u15 0, .inl (cA 0, 47, .inl (fun _ => 0)))] rfl ?_
  refine wc_aast K 1 14 [(a, .inr (7, [.ref x0, .ref q1, .ref q2, .ref q3, .ref q4, .ref q5, .int 0, .int 0, .int 0, .int 0, .int 0])), (q1, .inl (cA 4, 5, .inr (.inr (.inr (.inr (va_up (va_up (va_up (va_up (va_up (fun _ => none) 0 (some q6)) 1 (some q8)) 2 (some q10)) 3 (some q12)) 4 (some q14))))))), (q2, .inl (cA 0, 64, .inl (fun _ => 0))), (q3, .inl (cA 0, 64, .inl (fun _ => 0))), (q4, .inl (cA 0, 4, .inl (fun _ => 0))), (q5, .inl (cA 0, 4, .inl (fun _ => 0))), (q6, .inr (8, [.ref (u7 0)])), (u7 0, .inl (cA 0, 47, .inl (fun _ => 0))), (q8, .inr (8, [.ref (u9 0)])), (u9 0, .inl (cA 0, 47, .inl (fun _ => 0))), (q10, .inr (8, [.ref (u11 0)])), (u11 0, .inl (cA 0, 47, .inl (fun _ => 0))), (q12, .inr (8, [.ref (u13 0)])), (u13 0, .inl (cA 0, 47, .inl (fun _ => 0))), (q14, .inr (8, [.ref (u15 0)])), (u15 0, .inl (cA 0, 47, .inl (fun _ => 0)))] rfl rfl (ix1 (j := 4) 5 (by omega)) (by decide +kernel) rfl ?_
  refine wc_iinc K 2 0 [(2, .int 5), (0, .ref a), (1, .ref x0)] (v := 5) (by decide +kernel) rfl rfl (by decide) rfl ?_
  refine wc_goto K (-21) 49 (by decide +kernel) (by decide) ?_
  refine wc_iload K 2 0 (by decide +kernel) rfl ?_
  refine wc_iconst K 4 4 (by decide +kernel) rfl ?_
  refine wc_gtY K (22) 73 (by decide +kernel) (by decide) (by decide) ?_
  refine wc_ref 1 [(a, .inr (7, [.ref x0, .ref q1, .ref q2, .ref q3, .ref q4, .ref q5, .int 0, .int 0, .int 0, .int 0, .int 0])), (q1, .inl (cA 4, 5, .inr (.inr (.inr (.inr (fun i => some (([q1, q2, q3, q4, q5, q6, u7 0, q8, u9 0, q10, u11 0, q12, u13 0, q14, u15 0] : List Nat).getD (5 + 2 * i) 0))))))), (q2, .inl (cA 0, 64, .inl (fun _ => 0))), (q3, .inl (cA 0, 64, .inl (fun _ => 0))), (q4, .inl (cA 0, 4, .inl (fun _ => 0))), (q5, .inl (cA 0, 4, .inl (fun _ => 0))), (q6, .inr (8, [.ref (u7 0)])), (u7 0, .inl (cA 0, 47, .inl (fun _ => 0))), (q8, .inr (8, [.ref (u9 0)])), (u9 0, .inl (cA 0, 47, .inl (fun _ => 0))), (q10, .inr (8, [.ref (u11 0)])), (u11 0, .inl (cA 0, 47, .inl (fun _ => 0))), (q12, .inr (8, [.ref (u13 0)])), (u13 0, .inl (cA 0, 47, .inl (fun _ => 0))), (q14, .inr (8, [.ref (u15 0)])), (u15 0, .inl (cA 0, 47, .inl (fun _ => 0)))] rfl (fun i hi => by
    match i, hi with
    | 0, _ => rfl
    | 1, _ => rfl
    | 2, _ => rfl
    | 3, _ => rfl
    | 4, _ => rfl
    | i + 5, hi => exact absurd hi (by omega)) rfl ?_
  exact hR 73 _ (fun i => ([q1, q2, q3, q4, q5, q6, u7 0, q8, u9 0, q10, u11 0, q12, u13 0, q14, u15 0] : List Nat).getD i 0) 15 381 (by decide +kernel) (by decide) (by decide)
def W_X1 (ts : Nat → Nat → Nat) (cA : Nat → ClassId) (a : Nat) (u : Nat → Nat) : va_W := [(a, .inr (1, [.ref (u 0), .int 0])), (u 0, .inr (3, [.ref (ts 90 1), .int 76, .ref (u 1), .int 0, .int 0])), (u 1, .inl (cA 5, 5, .inr (.inr (.inr (.inr (fun i => some (u (2 + i)))))))), (u 2, .inl (cA 0, 8, .inl (fun _ => 0))), (u 3, .inl (cA 0, 8, .inl (fun _ => 0))), (u 4, .inl (cA 0, 8, .inl (fun _ => 0))), (u 5, .inl (cA 0, 8, .inl (fun _ => 0))), (u 6, .inl (cA 0, 8, .inl (fun _ => 0)))]
set_option maxHeartbeats 8000000 in
set_option maxRecDepth 20000 in
theorem n_X1 {ts : Nat → Nat → Nat} : CN ts mX1_init 2 7 50 [] 1 [.null, .int 0] (W_X1 ts) := by
  refine cn_wc (fun a => [(0, .ref a)]) (by decide) rfl (fun a => Nat.le_of_ble_eq_true rfl) (fun a => rfl) ?_ rfl
  intro p l e s m args below meth c D cA A Q a K hR
  refine wc_aload K 0 0 (by decide +kernel) rfl ?_
  refine wc_obj K 3 (by decide) (by decide +kernel) (by decide +kernel) ?_
  refine wc_aload K 0 0 (by decide +kernel) rfl ?_
  refine wc_new K 9 3 [.null, .int 0, .null, .int 0, .int 0] rfl (by decide +kernel) (by decide +kernel) (by decide +kernel) fs_3 (Nat.le_of_ble_eq_true rfl) (Nat.le_of_ble_eq_true rfl) (by decide +kernel) (fun q1 => ?_)
  refine wc_dup K (by decide +kernel) ?_
  refine wc_ldc1 K rfl (by decide +kernel) ?_
  refine wc_bipush K 76 76 (by decide +kernel) rfl ?_
  refine wc_ctor K 13 (As := [.ref (ts 90 1), .int 76]) (st := [.ref q1, .ref a]) (W0 := [(a, .inr (1, [.null, .int 0]))]) (n := 2) (n_X3 ((ts 90 1)) (76)) rfl rfl (by decide +kernel) (by decide +kernel) (by decide +kernel) (by decide +kernel) (by decide +kernel) (by decide) ⟨Nat.le_of_ble_eq_true rfl, Nat.le_of_ble_eq_true rfl⟩ (Nat.le_of_ble_eq_true rfl) (by decide +kernel) rfl (fun u2 => ?_)
  refine wc_ws [(a, .inr (1, [.null, .int 0])), (q1, .inr (3, [.ref (ts 90 1), .int 76, .ref (u2 0), .int 0, .int 0])), (u2 0, .inl (cA 5, 5, .inr (.inr (.inr (.inr (fun i => some (u2 (1 + i)))))))), (u2 1, .inl (cA 0, 8, .inl (fun _ => 0))), (u2 2, .inl (cA 0, 8, .inl (fun _ => 0))), (u2 3, .inl (cA 0, 8, .inl (fun _ => 0))), (u2 4, .inl (cA 0, 8, .inl (fun _ => 0))), (u2 5, .inl (cA 0, 8, .inl (fun _ => 0)))] rfl ?_
  refine wc_putF K 16 0 1 0 [(a, .inr (1, [.ref q1, .int 0])), (q1, .inr (3, [.ref (ts 90 1), .int 76, .ref (u2 0), .int 0, .int 0])), (u2 0, .inl (cA 5, 5, .inr (.inr (.inr (.inr (fun i => some (u2 (1 + i)))))))), (u2 1, .inl (cA 0, 8, .inl (fun _ => 0))), (u2 2, .inl (cA 0, 8, .inl (fun _ => 0))), (u2 3, .inl (cA 0, 8, .inl (fun _ => 0))), (u2 4, .inl (cA 0, 8, .inl (fun _ => 0))), (u2 5, .inl (cA 0, 8, .inl (fun _ => 0)))] rfl rfl (by decide) (by decide +kernel) rfl rfl rfl rfl rfl (by simp) (by decide +kernel) rfl ?_
  refine wc_ref 2 [(a, .inr (1, [.ref q1, .int 0])), (q1, .inr (3, [.ref (ts 90 1), .int 76, .ref (u2 0), .int 0, .int 0])), (u2 0, .inl (cA 5, 5, .inr (.inr (.inr (.inr (fun i => some (([q1, u2 0, u2 1, u2 2, u2 3, u2 4, u2 5] : List Nat).getD (2 + i) 0))))))), (u2 1, .inl (cA 0, 8, .inl (fun _ => 0))), (u2 2, .inl (cA 0, 8, .inl (fun _ => 0))), (u2 3, .inl (cA 0, 8, .inl (fun _ => 0))), (u2 4, .inl (cA 0, 8, .inl (fun _ => 0))), (u2 5, .inl (cA 0, 8, .inl (fun _ => 0)))] rfl (fun i hi => by
    match i, hi with
    | 0, _ => rfl
    | 1, _ => rfl
    | 2, _ => rfl
    | 3, _ => rfl
    | 4, _ => rfl
    | i + 5, hi => exact absurd hi (by omega)) rfl ?_
  exact hR 19 _ (fun i => ([q1, u2 0, u2 1, u2 2, u2 3, u2 4, u2 5] : List Nat).getD i 0) 7 50 (by decide +kernel) (by decide) (by decide)
