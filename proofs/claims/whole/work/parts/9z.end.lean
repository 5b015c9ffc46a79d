theorem app_l {A : Nat → Prop} {w1 w2 : va_W} (h : va_D A (w1 ++ w2)) : va_D A w1 := by
  have h0 : ∀ (i : Nat) (x : Nat × va_E), w1[i]? = some x → (w1 ++ w2)[i]? = some x := fun i x hx => by rw [List.getElem?_append_left (List.getElem?_eq_some_iff.mp hx).1]; exact hx
  exact ⟨fun i j x y hx hy e => h.1 i j x y (h0 i x hx) (h0 j y hy) e, fun i x hx => h.2 i x (h0 i x hx)⟩
theorem app_ri {w1 w2 : va_W} {j : Nat} {y : Nat × va_E} (hy : w2[j]? = some y) : (w1 ++ w2)[w1.length + j]? = some y := by
  rw [List.getElem?_append_right (Nat.le_add_right _ _), Nat.add_sub_cancel_left]
  exact hy
theorem app_r {A : Nat → Prop} {w1 w2 : va_W} (h : va_D A (w1 ++ w2)) : va_D A w2 :=
  ⟨fun i j x y hx hy e => by have := h.1 _ _ x y (app_ri (w1 := w1) hx) (app_ri (w1 := w1) hy) e; omega, fun i x hx => h.2 _ x (app_ri (w1 := w1) hx)⟩
theorem app_ne {A : Nat → Prop} {w1 w2 : va_W} (h : va_D A (w1 ++ w2)) {i j : Nat} {x y : Nat × va_E} (hx : w1[i]? = some x) (hy : w2[j]? = some y) : x.1 ≠ y.1 := fun e => by
  have hi := (List.getElem?_eq_some_iff.mp hx).1
  have := h.1 i _ x y (by rw [List.getElem?_append_left hi]; exact hx) (app_ri (w1 := w1) hy) e
  omega
theorem app_Pl {D : va_G} {w1 w2 : va_W} {H : Heap} (h : va_P D vwCl (w1 ++ w2) H) : va_P D vwCl w1 H := fun i x hx => h i x (by rw [List.getElem?_append_left (List.getElem?_eq_some_iff.mp hx).1]; exact hx)
theorem app_Pr {D : va_G} {w1 w2 : va_W} {H : Heap} (h : va_P D vwCl (w1 ++ w2) H) : va_P D vwCl w2 H := fun i x hx => h _ x (app_ri (w1 := w1) hx)
theorem aw_at {cA : Nat → ClassId} {tr : Ad → Nat} {h : Hp} {al : List Ad} {q : Nat} (hq : Aw al tr q) : ∃ (i : Nat) (e : va_E), (wof cA tr h al)[i]? = some (q, e) := by
  obtain ⟨a, ha, rfl⟩ := hq
  obtain ⟨i, hi⟩ := List.getElem?_of_mem ha
  exact ⟨i, _, wof_at hi⟩
set_option maxHeartbeats 4000000 in
theorem whole_start {p : Program} {e : Env} {s : State} {m : MethodId} {below : List Frame} {meth : Method} {c : Code} (l : Launch) (hlt : l.stackTraces = false) {b L : Nat} {xs : Nat → Int32} (hL : L ≤ 2560) (C0 : lw_At p s m meth c b L xs) : W p l e room_1 s m #[Value.ref b] below meth c s.heap [] 0 0 (lw_Z below #[Value.ref b] s) (entryFrame m ([Value.ref b] : List Value).toArray 8) := by
  obtain ⟨hx, hb, hr, hml, hown, hts, hX, hbl, hlocks, hgv⟩ := id C0
  have htg : ∀ w ∈ gt, w.before #[Value.ref b] s = true := fun w hw => hts w (gt_lw hw)
  obtain ⟨Dg, cA, hK⟩ := kK hts
  obtain ⟨ts, hSX⟩ := kS hts hgv
  have hEX := kE hts hgv
  have hNI := kN hts hSX
  have hA : ∀ q, s.heap.size ≤ q → AL s q := fun _ h => h
  have hS : va_S (AL s) s.heap s.heap [] := va_S.rf
  have hP : va_P Dg vwCl [] s.heap := fun k q h => by simp at h
  have hD : va_D (AL s) [] := ⟨fun i j p q h => by simp at h, fun k q h => by simp at h⟩
  have hl := lv_entry ([.ref b]) (n := 8) (Nat.le_of_ble_eq_true rfl)
  rw [lg_entry_eq]
  generalize (lg_sl ([.ref b]) ++ List.replicate (8 - (lg_sl ([.ref b])).length) Slot.unset).toArray = ls at hl ⊢
  have hl : lv_has ls 8 [(0, .ref b)] := hl
  have hown' : s.vm.findClass RL = some m.cls := hown
  obtain ⟨c1, ty0, c2, c3⟩ := cl_ok 11 (RX11, TX11, 12) rfl
  refine va_new (C := RX11) (T := TX11) (N := 12) (ci := 11) (fs := nul12) hx hb htg c1 ty0 c2 hown' (htg (.classLink RL 8 RX11) (by decide +kernel)) (htg (.instantiable RX11 12) (by decide +kernel)) (htg (.initialized RX11) (by decide +kernel)) hK hP hD hS hA rfl (fs_11 ty0 c2) (by decide) (by decide) (show decode code 0 = .ok (.new 8, 3) by decide +kernel) (fun q0 H hP hD hS => ?_)
  have hA11 : ∀ q, A11 q0 H.size q → AL s q := fun q z => by
    rcases z with ⟨k, e1, hk1⟩ | z
    · rcases k with _ | k
      · cases hk1; exact hD.2 0 _ rfl
      · cases hk1
    · exact Nat.le_trans hS.1 z
  refine lv_dup hx hb (show decode code 3 = .ok (.dup, 1) by decide +kernel) rfl ?_
  refine go_I (Mc := mX11_init) (a := q0) (rest := [.ref q0]) ⟨hx, hb, hml, hown', htg⟩ (n_C (D := Dg) (cA := cA) (ts := ts) (a := q0) (sz := H.size)) rfl rfl (by decide +kernel) (by decide +kernel) (by decide +kernel) (by decide +kernel) (by decide +kernel) rfl rfl ⟨by decide, by decide⟩
    ⟨fun a U g mk q => by obtain ⟨q0, q1, q2, q3, q4, q5⟩ := q; exact ⟨q0, q1, q2, va_K.moved (u := U) (U := U.calling g mk a) (Vm.Alike.refl U.vm) q3, q4.same rfl, q5.call⟩, fun U hU hW => ⟨rfl, by rw [hU], by rw [hU]; exact hP, va_K.moved hW.alike hK, hNI.warm hW, (hSX.go hS.2.1 hU hW).narrow hA11⟩⟩
    ⟨by decide, by decide⟩ (Nat.le_of_ble_eq_true rfl) hl.1 (show decode code 4 = .ok (.invokespecial 25, 3) by decide +kernel) (fun v st₀ t Ls h0 hLs hq => ?_)
  obtain ⟨⟨ys, h1, hv, hP1, hD1, hCI, hw1⟩, hz, hk⟩ := hq
  cases hv
  refine ⟨rfl, ?_⟩
  rw [h0] at hz hk
  have hS1 : va_S (AL s) s.heap t.heap ([] ++ Ls) := ⟨Nat.le_trans hS.1 hz, fun q z1 z2 => by rw [hk q (Nat.lt_of_lt_of_le z1 hS.1) (fun z => z2 (hA11 q z))]; exact hS.2.1 q z1 z2, fun q hq => hA11 _ (hLs q hq)⟩
  generalize t.heap = H1 at hP1 hS1
  have hD1 := hD1.weaken (B := AL s) (fun _ _ _ z => hA11 _ z)
  refine lv_astore_n (lv' := [(1, .ref q0), (0, .ref b)]) hx hb (show decode code 7 = .ok (.astore_n 1, 1) by decide +kernel) rfl hl (by decide) rfl (fun ls hl => ?_)
  obtain ⟨d1, dy0, d2, d3⟩ := cl_ok 12 (RX12, TX12, 49) rfl
  refine va_new (C := RX12) (T := TX12) (N := 49) (ci := 12) (fs := [.null, .int 0, .null, .int 0, .null, .int 0, .null, .int 0, .null, .int 0, .int 0, .null, .int 0, .int 0, .int 0, .int 0, .null, .null, .null, .int 0, .int 0, .null, .null, .int 0, .null, .null, .int 0, .null, .int 0, .int 0, .null, .null, .int 0, .int 0, .null, .int 0, .null, .int 0, .null, .null, .null, .null, .int 0, .null, .int 0, .int 0, .null, .null, .null]) hx hb htg d1 dy0 d2 hown' (htg (.classLink RL 26 RX12) (by decide +kernel)) (htg (.instantiable RX12 49) (by decide +kernel)) (htg (.initialized RX12) (by decide +kernel)) hK hP1 hD1 hS1 hA rfl (fs_12 dy0 d2) (by decide) (by decide) (show decode code 8 = .ok (.new 26, 3) by decide +kernel) (fun q1 H2 hP2 hD2 hS2 => ?_)
  refine lv_dup hx hb (show decode code 11 = .ok (.dup, 1) by decide +kernel) rfl ?_
  have hP20 : va_P Dg vwCl [(q1, .inr (12, [.null, .int 0, .null, .int 0, .null, .int 0, .null, .int 0, .null, .int 0, .int 0, .null, .int 0, .int 0, .int 0, .int 0, .null, .null, .null, .int 0, .int 0, .null, .null, .int 0, .null, .null, .int 0, .null, .int 0, .int 0, .null, .null, .int 0, .int 0, .null, .int 0, .null, .int 0, .null, .null, .null, .null, .int 0, .null, .int 0, .int 0, .null, .null, .null]))] H2 := app_Pr hP2
  refine go_I (Mc := mX12_init) (a := q1) (rest := [.ref q1]) ⟨hx, hb, hml, hown', htg⟩ (n_X12 (ts := ts) l Dg cA q1 H2.size) rfl rfl (by decide +kernel) (by decide +kernel) (by decide +kernel) (by decide +kernel) (by decide +kernel) rfl rfl ⟨by decide, by decide⟩
    ⟨fun a U g mk q => by obtain ⟨q0, q1, q2, q3, q4⟩ := q; exact ⟨q0, q1, q2, va_K.moved (u := U) (U := U.calling g mk a) (Vm.Alike.refl U.vm) q3, q4.same rfl⟩, fun U hU hW => ⟨rfl, by rw [hU], by rw [hU]; exact hP20, va_K.moved hW.alike hK, hNI.warm hW⟩⟩
    ⟨by decide, by decide⟩ (Nat.le_of_ble_eq_true rfl) hl.1 (show decode code 12 = .ok (.invokespecial 28, 3) by decide +kernel) (fun v st₀ t Ls2 h0 hLs2 hq => ?_)
  obtain ⟨⟨u, hv, hP3, hD3⟩, hz2, hk2⟩ := hq
  cases hv
  refine ⟨rfl, ?_⟩
  rw [h0] at hz2 hk2
  obtain ⟨hP4, hD4⟩ := ctor_join hP2 hD2 hS2 hA hk2 hP3 hD3
  have hA12 : ∀ q, va_A [(q1, (.inr (12, [.null, .int 0, .null, .int 0, .null, .int 0, .null, .int 0, .null, .int 0, .int 0, .null, .int 0, .int 0, .int 0, .int 0, .null, .null, .null, .int 0, .int 0, .null, .null, .int 0, .null, .null, .int 0, .null, .int 0, .int 0, .null, .null, .int 0, .int 0, .null, .int 0, .null, .int 0, .null, .null, .null, .null, .int 0, .null, .int 0, .int 0, .null, .null, .null]) : va_E))] H2.size q → AL s q := fun q z => by
    rcases z with ⟨k, e1, hk1⟩ | z
    · rcases k with _ | k
      · cases hk1; exact (app_r hD2).2 0 _ rfl
      · cases hk1
    · exact Nat.le_trans hS2.1 z
  have hS3 : va_S (AL s) s.heap t.heap (([] ++ Ls) ++ Ls2) := ⟨Nat.le_trans hS2.1 hz2, fun q z1 z2 => by rw [hk2 q (Nat.lt_of_lt_of_le z1 hS2.1) (fun z => z2 (hA12 q z))]; exact hS2.2.1 q z1 z2, fun q hq => by
    rcases List.mem_append.mp hq with z | z
    · exact hS2.2.2 q z
    · exact hA12 _ (hLs2 q z)⟩
  generalize t.heap = H3 at hP4 hS3
  have hP4 : va_P Dg vwCl (wof cA (trC ts (q0 :: ys)) h1 alC ++ wof cA (trM ts q1 u) hM0 alM) H3 := hP4
  have hD4 : va_D (AL s) (wof cA (trC ts (q0 :: ys)) h1 alC ++ wof cA (trM ts q1 u) hM0 alM) := hD4
  refine lv_astore_n (lv' := [(2, .ref q1), (1, .ref q0), (0, .ref b)]) hx hb (show decode code 15 = .ok (.astore_n 2, 1) by decide +kernel) rfl hl (by decide) rfl (fun ls hl => ?_)
  refine lv_iconst (v := 1) hx hb (show decode code 16 = .ok (.iconst 1, 1) by decide +kernel) (by decide) ?_
  refine va_newa (atype := .long) (ty := .long) (a0 := (1, .inr (.inl (fun _ => 0)))) hx hb (htg (.arrayClass .long) (by decide +kernel)) rfl hK hP4 hD4 hS3 hA (fun _ => vp_cell_l _ _ _) (by decide) rfl (by decide) (by decide) (by decide) (show decode code 17 = .ok (.newarray .long, 2) by decide +kernel) (fun qo x H4 hK4 hP5 hD5 hS5 => ?_)
  cases va_K.ty hK hK4 1 rfl (fun _ _ _ => ra_l)
  refine lv_astore_n (lv' := [(3, .ref qo), (2, .ref q1), (1, .ref q0), (0, .ref b)]) hx hb (show decode code 19 = .ok (.astore_n 3, 1) by decide +kernel) rfl hl (by decide) rfl (fun ls hl => ?_)
  refine lv_iconst (v := 0) hx hb (show decode code 20 = .ok (.iconst 0, 1) by decide +kernel) (by decide) ?_
  refine lv_istore (lv' := [(4, .int 0), (3, .ref qo), (2, .ref q1), (1, .ref q0), (0, .ref b)]) hx hb (show decode code 21 = .ok (.istore 4, 2) by decide +kernel) hl (by decide) rfl (fun ls hl => ?_)
  generalize htX : trC ts (q0 :: ys) = trX at hP5 hD5
  generalize htM : trM ts q1 u = trM' at hP5 hD5
  have eX : trX (11, 0) = q0 := by rw [← htX]; rfl
  have eM : trM' (12, 0) = q1 := by rw [← htM]; rfl
  have dXM := app_l hD5
  have dX := app_l dXM
  have dM := app_r dXM
  have aX : ∀ q, Aw alC trX q → AL s q := aw_of dX
  have aM : ∀ q, Aw alM trM' q → AL s q := aw_of dM
  have ao : AL s qo := (app_r hD5).2 0 _ rfl
  have C : LC p l s m meth c b L xs Dg cA trX trM' qo := by
    refine ⟨C0, hlt, hK, inj_of dX, inj_of dM, aX, aM, ao, fun q z1 z2 => ?_, fun z => ?_, fun z => ?_, hL, fun H locs hS U hU hW => ⟨?_, ?_, ?_⟩⟩
    · obtain ⟨i, e1, h1⟩ := aw_at (cA := cA) (h := h1) z1
      obtain ⟨j, e2, h2⟩ := aw_at (cA := cA) (h := hM0) z2
      exact app_ne dXM h1 h2 rfl
    · obtain ⟨i, e1, h9⟩ := aw_at (cA := cA) (h := h1) z
      have h8 : (wof cA trX h1 alC ++ wof cA trM' hM0 alM)[i]? = some (qo, e1) := by rw [List.getElem?_append_left (List.getElem?_eq_some_iff.mp h9).1]; exact h9
      exact app_ne hD5 h8 (show [(qo, _)][0]? = some _ from rfl) rfl
    · obtain ⟨i, e1, h9⟩ := aw_at (cA := cA) (h := hM0) z
      exact app_ne hD5 (app_ri h9) (show [(qo, _)][0]? = some _ from rfl) rfl
    · subst htX; exact (hSX.go hS.2.1 hU hW).C aX
    · subst htM; exact (hSX.go hS.2.1 hU hW).M aM
    · exact (hEX.go hS hU hW).narrow (fun q z => z.elim (aX q) (fun z => z ▸ ao))
  refine W.widen (k := 119 + 0) (n := 4395 + 6 * 0) (by omega) (by omega) ?_
  refine law_loop C 513 0 rfl g0 h1 hM0 (fun _ => 0) H4 _ ls ⟨app_Pl (app_Pl hP5), app_Pr (app_Pl hP5), app_Pr hP5, hS5, hw1, hwfM⟩ hCI mi0 ok0 ?_
  unfold LV
  rw [eX, eM]
  exact lv_sub hl [4, 3, 2, 1, 0] rfl
set_option maxHeartbeats 4000000 in
theorem lw_walk (l : Launch) (hlt : l.stackTraces = false) (b : Addr) (xs : List Int32) : MetFree l x (headSpec (Jvm.Cond.code x code maxLocals ret :: tables_1) room_1) (lw_P b xs) (fun _ _ _ _ _ => True) lw_Q := by
  refine MetFree.of_bodyS (code := code) (maxLocals := maxLocals) (ret := ret) (by decide) ?_ ?_
  · intro args s m h hn
    obtain ⟨meth, c, h1, h2, h3, h4, h5, h6, -, -⟩ := Cond.code_spec hn (atoms_spec (ws := Jvm.Cond.code x code maxLocals ret :: tables_1) h _ List.mem_cons_self)
    exact ⟨meth, c, h1, h2, h3, h4, h5, h6⟩
  · intro p e s m args below meth c s₁ B hml0 hP _
    obtain ⟨rfl, hx, hbd, hgv⟩ := hP
    obtain ⟨scr, harrAt, hlist, hof, hsmall⟩ := hx
    obtain ⟨hcb, hkn, -, -⟩ := State.arrayAt?_spec harrAt
    have hown : s.vm.findClass R_law = some m.cls := findClass_of_methodNamed B.named
    have hts0 : ∀ c ∈ (Jvm.Cond.code x code maxLocals ret :: tables_1), c.before #[Value.ref b] s = true := atoms_spec (ws := Jvm.Cond.code x code maxLocals ret :: tables_1) B.pre
    have hts : ∀ w ∈ lw_tbl, w.before #[Value.ref b] s = true := k2_hts_sels lw_privs (fun w hw => hts0 w (List.mem_cons_of_mem _ hw)) lw_privs_ok
    have hml : c.maxLocals = 8 := B.maxLocals_eq (hts0 _ List.mem_cons_self)
    have X₀ : Stand p l e room_1 s m #[Value.ref b] below meth c s₁ [] 0 0 := Stand.of_body B
    have hh0 : s₁.heap = s.heap := by rw [B.state]; rfl
    have hsz : scr.slots.size = xs.length := by rw [← Array.length_toList, hlist, List.length_map]
    have hval : ∀ j : Nat, j < xs.length → scr.slots[j]? = some (.int (xs.getD j 0)) := fun j hj => by
      rw [← Array.getElem?_toList, hlist]
      simp [hj]
    have hbl : b < s.heap.size := (Array.getElem?_eq_some_iff.mp hcb).1
    have hX : va_X b xs.length (fun j => xs.getD j 0) s s.heap := ⟨scr, hcb, hof, hkn, hsz, hval⟩
    have K : W p l e room_1 s m #[Value.ref b] below meth c s₁.heap [] 0 0 (lw_Z below #[Value.ref b] s) (entryFrame m ([Value.ref b] : List Value).toArray 8) := by
      rw [hh0]
      exact whole_start l hlt hbd ⟨B.exec, B.bytes, B.returns, hml, hown, hts, hX, hbl, B.notSynchronized, hgv⟩
    obtain ⟨t, a1, o, b1, b2, b3⟩ := K s₁ rfl X₀
    exact ⟨t, o, a1, b1, b2, b3⟩
theorem lw_pre_spec {args : Array Value} {s : State} (h : (Jvm.Cond.and given_1 narrow_1).before args s = true) (hr : rest_1_c.before args s = true) : ∃ (b : Addr) (xs : List Int32), lw_P b xs args s := by
  have hs := flat_of_before _ h
  have hq := flat_of_before _ hr
  have hc : (Cond.count 1).before args s = true := hs _ (by decide +kernel)
  have harr : (Cond.arrayOf (.arg 0) .int).before args s = true := hs _ (by decide +kernel)
  have hle : (Cond.le (.length (.arg 0)) (.int 2560)).before args s = true := hs _ (by decide +kernel)
  have hlen : (Cond.isInt (.length (.arg 0))).before args s = true := hq _ (by decide +kernel)
  have hall : (Cond.all (.arg 0) (.isInt (.elem (.arg 0) (.index 0)))).before args s = true := hq _ (by decide +kernel)
  obtain ⟨b, xs, hb, hx⟩ := State.ints_of_pre rfl harr hlen hall
  have hsm : xs.length < 2 ^ 31 := hx.choose_spec.2.2.2
  have hev : (Term.length (.arg 0)).eval args s none [] s = some (.int xs.length.toInt32) := hx.length_eval hb
  have hv := Cond.le_ints hev (show (Term.int 2560).eval args s none [] s = some (.int 2560) from rfl)
  have hd : xs.length.toInt32 ≤ 2560 := by
    simpa [Cond.before, Cond.holds, hv] using hle
  have hN : xs.length ≤ 2560 := (Int32.ofNat_le_ofNat hsm (by decide)).mp (show Int32.ofNat xs.length ≤ Int32.ofNat 2560 from hd)
  exact ⟨b, xs, Cond.one_arg hc (show args[0]? = some (.ref b) from hb), hx, hN, h⟩
theorem lw_comes (l : Launch) (hlt : l.stackTraces = false) : Comes l x (Jvm.Cond.code x code maxLocals ret :: tables_1) room_1 (fun tb e args s => Calls_1 tb e args s ∧ rest_1 tb e args s ∧ Pre_1 tb e args s)
    (fun _ _ args s o t => lw_Q args s o t) := by
  intro p e ha hc hk s m args below hf hfit hheap happ hpre
  obtain ⟨b, xs, hP⟩ := lw_pre_spec hpre.2.2 hpre.2.1
  obtain ⟨k, o, h1, h2, h3, hQ⟩   := lw_walk l hlt b xs p e ha hc hk s m args below hf ((Spec.applies_iff_loose hf).mp happ).1 hP trivial
  exact ⟨k, o, h1, h2, h3, hQ⟩
theorem lw_frame {s t : State} {o : Outcome} {args : Array Value} (h : Framed s o t [] 601024 7293034) :
    Framed s o t (fieldLocs frame_1_writes args s ++ arrayLocs frame_1_arrays args s ++ staticLocs frame_1_statics s) 601024 7293034 := h
theorem lw_limb (L : Cond) (hL : ∀ (args : Array Value) (s t : State), L.after args s (.returned (some (.int 1))) t = true) :
    ArmFor flags0 classFile x code maxLocals ret World_1 tables_1 room_1 Calls_1 rest_1 Pre_1
      (fun tb e a s o t => postC L tb e a s o t ∧ Framed s o t (fieldLocs frame_1_writes a s ++ arrayLocs frame_1_arrays a s ++ staticLocs frame_1_statics s) 601024 7293034) := by
  intro l hfl _ _ p e ha hc hk s m args below hf hfit hheap happ hpre
  obtain ⟨k, o, h1, h2, h3, rfl, hF⟩  := lw_comes l (by unfold Launch.stackTraces; rw [hfl]; decide) p e ha hc hk s m args below hf hfit hheap happ hpre
  exact ⟨k, _, h1, h2, h3, hL args s _, lw_frame hF⟩
theorem i_vc : Claimed_1_1 ∧ Claimed_1_2 := ⟨lw_limb limb_1_1 (fun args s t => by simp [limb_1_1, Cond.after, Cond.holds, Cond.value]), lw_limb limb_1_2 (fun args s t => Cond.after_iff.mpr (by
  first | (rw [show limb_1_2 = Cond.eq .result (.int 1) from rfl, Cond.eq_ints (x := 1) (y := 1) rfl rfl]; simp; done) | (simp [limb_1_2, Cond.value, Term.eval]; done)))⟩
