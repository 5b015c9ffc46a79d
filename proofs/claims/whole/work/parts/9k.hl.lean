/-! calls out of the law and its helpers -/
section GO
variable {p : Program} {l : Launch} {e : Env} {R : Room} {s : State} {m : MethodId} {args : Array Value} {below : List Frame} {meth : Method} {c : Code} {H : Heap} {locs : List Loc} {cells slots : Nat} {Q : State → Prop} {pc : Nat} {ls : Array Slot}
variable {al : List Ad} {D : va_G} {cA : Nat → ClassId} {tr : Ad → Nat} {A : Nat → Prop} {cc : ByteArray} {nL : Nat} {own : String} {idx n ci i k : Nat} {q : vw_C} {fds : List Fdk} {Mc : MT} {As : List AV} {rest : List Value} {h : Hp} {P' : AV → Hp → Prop}
theorem go_V (S : CallFix p m c cc nL s args gt own) (hK : va_K D vwCl (tysL cA) s) (hinj : Inj al tr) (hP : va_P D vwCl (wof cA tr h al) H) (hw : hwf al h) (hsx : ∀ U : State, U.heap = H → s.WarmedH U.vm → SX al tr U) (hS : va_S A s.heap H locs) (hA : ∀ q, Aw al tr q → A q)
    (ha : (ci, i) ∈ al) (hsA : stok al As) (hq : vwCl[ci]? = some q) (hqc : q.1 = Mc.1.cls) (hsh : shp ci = .inl fds) (g1 : Cond.methodLink own idx Mc.1 ∈ gt) (g2 : Cond.instanceMethod Mc.1 ∈ gt) (g5 : Cond.selects Mc.1.cls Mc.1 Mc.1 ∈ gt) (g3 : Cond.initialized Mc.1.cls ∈ gt) (g4 : Cond.code Mc.1 Mc.2.1 Mc.2.2.1 Mc.2.2.2 ∈ gt)
    (hy : Mc.1.cls ≠ "java/lang/invoke/MethodHandle" ∧ Mc.1.cls ≠ "java/lang/invoke/VarHandle" ∧ (parseMethodDescriptor Mc.1.desc).map (fun d => d.parameters.length) = some n) (hR : k + 1 ≤ R.frames ∧ 8 + (Mc.2.2.1 + 11) + 60 * k ≤ R.locals) (hc : cells ≤ R.cells ∧ slots ≤ R.slots) (hcat : (rest.map fun v => v.category).sum ≤ 8) (hls : ls.size = nL) (hd : decode cc pc = .ok (.invokevirtual idx, 3)) (hn : As.length = n)
    (hC : Ct al Mc k (vR ci i :: As) h P')
    (kk : ∀ (v : AV) (h' : Hp) (H1 : Heap) (locs1 : List Loc), P' v h' → va_P D vwCl (wof cA tr h' al) H1 → hwf al h' → H.size ≤ H1.size → (∀ q : Nat, q < H.size → ¬ Aw al tr q → H1[q]? = H[q]?) → va_S A s.heap H1 locs1 → W p l e R s m args below meth c H1 locs1 cells slots Q (F0 m (pc + 3) ls ((Mc.2.2.2.map fun _ => trV tr v).toList ++ rest))) :
    W p l e R s m args below meth c H locs cells slots Q (F0 m pc ls ((As.map (trV tr)).reverse ++ .ref (tr (ci, i)) :: rest)) := by
  obtain ⟨j0, hj, hcell⟩ := obj_at (cA := cA) (tr := tr) (h := h) ha hsh
  have hrecv := va_recv hK hP hq hcell
  rw [hqc] at hrecv
  have hsA' : stok al (vR ci i :: As) := sc (fun a z => by cases z; exact Or.inl ha) hsA
  have hts := S.2.2.2.2
  have hr := va_runV (Ts := gt) (C := Mc.1.cls) (b := tr (ci, i)) (As := As.map (trV tr)) (rest := rest) (e := e) (below := below) (meth := meth) (locs := locs) (cells := cells) (slots := slots) (R := R) (H := H) (g := F0 m pc ls ((As.map (trV tr)).reverse ++ .ref (tr (ci, i)) :: rest)) S (hC l D cA tr hinj hw hsA')
    ⟨callB_of n hts (gin Mc g4) rfl rfl rfl (hts _ g3) (hts _ g1) hy hR, hts _ g2, hts _ g5⟩
    ⟨pcx_blind, hrecv, fun U hU hW => ⟨rfl, by rw [hU]; exact hP, va_K.moved hW.alike hK, hsx U hU hW⟩⟩ rfl (by rw [List.length_map]; exact hn) hls rfl
    (lv_room hcat) hd hc
  intro T hT X
  obtain ⟨v0, st₀, t, T', L, h0, X', hL, e1, e2, ⟨⟨v, h', hp, hv, hP1, hw1, hwv⟩, hz, hk⟩, st⟩ := hr T hT X
  cases hv
  rw [h0] at hz hk
  obtain ⟨t2, a1, b1⟩ := kk v h' T'.heap (locs ++ L) hp (by rw [e1]; exact hP1) hw1 (by rw [e1]; exact hz) (fun q z1 z2 => by rw [e1]; exact hk q z1 z2)
    ⟨Nat.le_trans hS.1 (by rw [e1]; exact hz), fun q h1 h2 => by rw [e1, hk q (Nat.lt_of_lt_of_le h1 hS.1) (fun z => h2 (hA q z))]; exact hS.2.1 q h1 h2, fun q hq => by
      rcases List.mem_append.mp hq with z | z
      · exact hS.2.2 q z
      · exact hA _ (hL q z)⟩ T' rfl X'
  exact ⟨t2, st t2 a1, b1⟩
theorem go_X (S : CallFix p m c cc nL s args gt own) (hlt : l.stackTraces = false) (hK : va_K D vwCl (tysL cA) s) (hinj : Inj al tr) (hP : va_P D vwCl (wof cA tr h al) H) (hw : hwf al h) (hsx : ∀ U : State, U.heap = H → s.WarmedH U.vm → SX al tr U ∧ EX (Aw al tr) U) (hS : va_S A s.heap H locs) (hA : ∀ q, Aw al tr q → A q)
    (ha : (ci, i) ∈ al) (hsA : stok al As) (hq : vwCl[ci]? = some q) (hqc : q.1 = Mc.1.cls) (hsh : shp ci = .inl fds) (g1 : Cond.methodLink own idx Mc.1 ∈ gt) (g2 : Cond.instanceMethod Mc.1 ∈ gt) (g5 : Cond.selects Mc.1.cls Mc.1 Mc.1 ∈ gt) (g3 : Cond.initialized Mc.1.cls ∈ gt) (g4 : Cond.code Mc.1 Mc.2.1 Mc.2.2.1 Mc.2.2.2 ∈ gt)
    (hy : Mc.1.cls ≠ "java/lang/invoke/MethodHandle" ∧ Mc.1.cls ≠ "java/lang/invoke/VarHandle" ∧ (parseMethodDescriptor Mc.1.desc).map (fun d => d.parameters.length) = some n) (hR : k + 11 ≤ R.frames ∧ 8 + (Mc.2.2.1 + 11) + (60 * k + 200) ≤ R.locals) (hc : cells + 1 ≤ R.cells ∧ slots + 6 ≤ R.slots) (hcat : (rest.map fun v => v.category).sum ≤ 8) (hls : ls.size = nL) (hd : decode cc pc = .ok (.invokevirtual idx, 3)) (hn : As.length = n)
    (hC : Cx al Mc k (vR ci i :: As) h)
    (kx : ∀ (ce : Cell) (q9 : Addr) (H1 : Heap) (locs1 : List Loc), va_P D vwCl (wof cA tr h al) H1 → H.size ≤ H1.size → (∀ q : Nat, q < H.size → ¬ Aw al tr q → H1[q]? = H[q]?) → va_S A s.heap H1 locs1 → H1[q9]? = some ce → ce.vm = .none → s.vm.findClass NSE = some ce.cls → vx_W p l e R s m args below meth c H1 locs1 (cells + 1) (slots + 6) Q (F0 m pc ls rest) q9) :
    W p l e R s m args below meth c H locs cells slots Q (F0 m pc ls ((As.map (trV tr)).reverse ++ .ref (tr (ci, i)) :: rest)) := by
  obtain ⟨j0, hj, hcell⟩ := obj_at (cA := cA) (tr := tr) (h := h) ha hsh
  have hrecv := va_recv hK hP hq hcell
  rw [hqc] at hrecv
  have hsA' : stok al (vR ci i :: As) := sc (fun a z => by cases z; exact Or.inl ha) hsA
  have hts := S.2.2.2.2
  have hr := vx_runV (Ts := gt) (C := Mc.1.cls) (b := tr (ci, i)) (As := As.map (trV tr)) (rest := rest) (e := e) (below := below) (meth := meth) (locs := locs) (cells := cells) (slots := slots) (R := R) (H := H) (g := F0 m pc ls ((As.map (trV tr)).reverse ++ .ref (tr (ci, i)) :: rest)) S (hC l D cA tr hlt hinj hw hsA')
    ⟨callB_of n hts (gin Mc g4) rfl rfl rfl (hts _ g3) (hts _ g1) hy hR, hts _ g2, hts _ g5⟩
    ⟨fun a U g mk z => ⟨pcx_blind a U g mk z.1, z.2.call⟩, hrecv, fun U hU hW => ⟨⟨rfl, by rw [hU]; exact hP, va_K.moved hW.alike hK, (hsx U hU hW).1⟩, (hsx U hU hW).2⟩⟩ rfl (by rw [List.length_map]; exact hn) hls rfl
    (lv_room hcat) hd hc
  intro T hT X
  rcases hr T hT X with ⟨v, st₀, t, T', L, h0, X', hL, e1, e2, hq9, st⟩ | ⟨q9, st₀, t, T', L, E, ce, h0, X', hL, e1, e2, ⟨u, -, ⟨rfl, hP1⟩, hF⟩, hce, hcv, hcl, st⟩
  · exact hq9.elim
  · obtain ⟨k1, k2, k3⟩ := vx_keep h0 e1 hS (fun q _ z => hA q z) (fun q z => hA q z) hL hF
    obtain ⟨t2, a1, b1⟩ := kx ce q9 T'.heap (locs ++ L) (by rw [e1]; exact hP1) k1 k2 k3 (by rw [e1]; exact hce) hcv hcl T' rfl X'
    exact ⟨t2, st.trans a1, b1⟩
end GO
/-! the law's helpers: out[0] = x.f(..), and 1 where it throws -/
def AwO (tr : Ad → Nat) (qo : Nat) : Nat → Prop := fun q => Aw alC tr q ∨ q = qo
def oC (cA : Nat → ClassId) (qo : Nat) (f : Nat → Int64) : va_W := [(qo, .inl (cA 1, 1, .inr (.inl f)))]
def HPc (D : va_G) (cA : Nat → ClassId) (tr : Ad → Nat) (qo : Nat) (h : Hp) (f : Nat → Int64) (As : List Value) : Array Value → State → Prop := va_Pc As (fun U => va_P D vwCl (wof cA tr h alC) U.heap ∧ va_P D vwCl (oC cA qo f) U.heap ∧ va_K D vwCl (tysL cA) U ∧ SX alC tr U ∧ EX (AwO tr qo) U)
def HQc (D : va_G) (cA : Nat → ClassId) (tr : Ad → Nat) (qo : Nat) (Pp : Int32 → Hp → (Nat → Int64) → Prop) : Array Value → State → Outcome → State → Prop := fun _ st oc t => (∃ (r : Int32) (h' : Hp) (f' : Nat → Int64), Pp r h' f' ∧ oc = .returned (some (.int r)) ∧ va_P D vwCl (wof cA tr h' alC) t.heap ∧ hwf alC h' ∧ va_P D vwCl (oC cA qo f') t.heap) ∧ va_F (AwO tr qo) st t
def rmh (k : Nat) : Room := { frames := k + 20, cells := 1, slots := 6, locals := 60 * k + 400 }
theorem hpc_blind {D : va_G} {cA : Nat → ClassId} {tr : Ad → Nat} {qo : Nat} {h : Hp} {f : Nat → Int64} {As : List Value} : FrameBlind (HPc D cA tr qo h f As) := fun a U g mk q => by
  obtain ⟨q0, qP, qO, qK, qS, qE⟩ := q
  exact ⟨q0, qP, qO, va_K.moved (u := U) (U := U.calling g mk a) (Vm.Alike.refl U.vm) qK, qS.call, qE.call⟩
theorem wof_ad {cA : Nat → ClassId} {tr : Ad → Nat} {h : Hp} {al : List Ad} {k : Nat} {q : Nat × va_E} (hk : (wof cA tr h al)[k]? = some q) : Aw al tr q.1 := by
  unfold wof at hk
  rw [List.getElem?_map] at hk
  cases ha : al[k]? with
  | none => rw [ha] at hk; cases hk
  | some a => rw [ha] at hk; cases hk; exact ⟨a, List.mem_of_getElem? ha, rfl⟩
theorem oD {cA : Nat → ClassId} {tr : Ad → Nat} {qo : Nat} {h : Hp} {f : Nat → Int64} (hinj : Inj alC tr) (hq : ¬ Aw alC tr qo) : va_D (AwO tr qo) (oC cA qo f ++ wof cA tr h alC) := by
  refine va_D.app ⟨fun i j p q h1 h2 _ => ?_, fun k q hk => ?_⟩ ((wof_D okC.1 hinj).weaken (fun _ _ _ z => Or.inl z)) (fun i j p q h1 h2 e => ?_)
  · have : i = 0 := by
      rcases i with _ | i
      · rfl
      · cases h1
    have : j = 0 := by
      rcases j with _ | j
      · rfl
      · cases h2
    omega
  · rcases k with _ | k
    · cases hk; exact Or.inr rfl
    · cases hk
  · rcases i with _ | i
    · cases h1
      exact hq ((show qo = q.1 from e).symm ▸ wof_ad h2)
    · cases h1
theorem tab1 {L : List ExceptionTableEntry} {a b c d : Nat} (h : L.map (fun h => (h.startPc, h.endPc, h.handlerPc, h.catchType)) = [(a, b, c, d)]) : ∃ x : ExceptionTableEntry, L = [x] ∧ x.startPc = a ∧ x.endPc = b ∧ x.handlerPc = c ∧ x.catchType = d := by
  match L, h with
  | [x], h =>
    simp only [List.map_cons, List.map_nil, List.cons.injEq, Prod.mk.injEq, and_true] at h
    exact ⟨x, rfl, h.1, h.2.1, h.2.2.1, h.2.2.2⟩
  | [], h => cases h
  | _ :: _ :: _, h => simp at h
theorem stI2 {al : List Ad} {x w : Int32} : stok al [vI x, vI w] := fun v hv => by
  rcases List.mem_cons.mp hv with rfl | hv
  · exact wfI
  · rcases List.mem_cons.mp hv with rfl | hv
    · exact wfI
    · cases hv
theorem stI1 {al : List Ad} {x : Int32} : stok al [vI x] := fun v hv => by
  rcases List.mem_cons.mp hv with rfl | hv
  · exact wfI
  · cases hv
theorem in1 : vp_in (0 : Int32) 1 := show vp_in (nI 0) 1 from ix1 1 (by omega)
set_option maxHeartbeats 4000000 in
theorem h_fighter {l : Launch} (hlt : l.stackTraces = false) {D : va_G} {cA : Nat → ClassId} {tr : Ad → Nat} {qo k : Nat} {h : Hp} {f : Nat → Int64} {x w : Int32} (hinj : Inj alC tr) (hw : hwf alC h) (hq0 : ¬ Aw alC tr qo) {Pp : Int32 → Hp → (Nat → Int64) → Prop}
    (hC : (∃ P', Ct alC mX11_fighter k (vR 11 0 :: [vI x, vI w]) h P' ∧ ∀ v h', P' v h' → ∃ r : Int32, v = vI r ∧ Pp 0 h' (vp_updL f 0 r.toInt64)) ∨ (Cx alC mX11_fighter k (vR 11 0 :: [vI x, vI w]) h ∧ Pp 1 h f)) :
    Met l yL_fighter (Cond.codeWith yL_fighter cL_fighter 5 (some .int) [(0, 10, 13, 13)] :: gt) (rmh k) (HPc D cA tr qo h f [.ref (tr (11, 0)), .int x, .int w, .ref qo]) (HQc D cA tr qo Pp) 1 6 (AwO tr qo) := by
  refine va_MetW (cc := cL_fighter) (maxL := 5) (ret := some .int) (hh := [(0, 10, 13, 13)]) (by decide) rfl ?_
  intro p e s m args below meth c s₁ B hml hv
  obtain ⟨rfl, hP, hO, hK, hX, hE⟩ := hv
  have hx := B.exec
  have hb := B.bytes
  have hr := B.returns
  have hts0 := atoms_spec (ws := Cond.codeWith yL_fighter cL_fighter 5 (some .int) [(0, 10, 13, 13)] :: gt) B.pre
  have hts := fun w hw => hts0 w (List.mem_cons_of_mem _ hw)
  have hown : s.vm.findClass RL = some m.cls := findClass_of_methodNamed B.named
  have hlocks := B.notSynchronized
  obtain ⟨m9, meth9, c9, hn9, hm9, hc9, -, -, ht9, -, -, -⟩ := Cond.codeWith_spec (hts0 _ List.mem_cons_self)
  cases Option.some.inj (hn9.symm.trans B.named)
  cases Option.some.inj (hm9.symm.trans B.method)
  cases Option.some.inj (hc9.symm.trans (Stand.of_body B).code)
  obtain ⟨xe, hxe, x1, x2, x3, x4⟩ := tab1 ht9
  have hS : va_S (AwO tr qo) s.heap s.heap [] := va_S.rf
  have hl := lv_entry ([.ref (tr (11, 0)), .int x, .int w, .ref qo]) (n := 5) (Nat.le_of_ble_eq_true rfl)
  rw [lg_entry_eq]
  generalize (lg_sl ([.ref (tr (11, 0)), .int x, .int w, .ref qo]) ++ List.replicate (5 - (lg_sl ([.ref (tr (11, 0)), .int x, .int w, .ref qo])).length) Slot.unset).toArray = ls at hl ⊢
  have hl : lv_has ls 5 [(0, .ref (tr (11, 0))), (1, .int x), (2, .int w), (3, .ref qo)] := hl
  refine lv_aload_n hx hb (show decode cL_fighter 0 = .ok (.aload_n 3, 1) by decide +kernel) rfl (lv_at hl 3 rfl) ?_
  refine lv_iconst (v := 0) hx hb (show decode cL_fighter 1 = .ok (.iconst 0, 1) by decide +kernel) (by decide) ?_
  refine lv_aload_n hx hb (show decode cL_fighter 2 = .ok (.aload_n 0, 1) by decide +kernel) rfl (lv_at hl 0 rfl) ?_
  refine lv_iload_n hx hb (show decode cL_fighter 3 = .ok (.iload_n 1, 1) by decide +kernel) rfl (lv_at hl 1 rfl) ?_
  refine lv_iload_n hx hb (show decode cL_fighter 4 = .ok (.iload_n 2, 1) by decide +kernel) rfl (lv_at hl 2 rfl) ?_
  rcases hC with ⟨P', hC, hPp⟩ | ⟨hC, hPp⟩
  · refine go_V (As := [vI x, vI w]) (rest := [.int 0, .ref qo]) ⟨hx, hb, hml, hown, hts⟩ hK hinj hP hw (fun U hU hW => hX.go (locs := []) va_S.rf hU hW) hS (fun q z => Or.inl z) (n := 2) (by decide) stI2 (q := (RX11, TX11, 12)) rfl rfl rfl (by decide +kernel) (by decide +kernel) (by decide +kernel) (by decide +kernel) (by decide +kernel) (by decide +kernel) ⟨by show k + 1 ≤ k + 20; omega, by show 8 + (3 + 11) + (60 * k) ≤ 60 * k + 400; omega⟩ ⟨Nat.zero_le _, Nat.zero_le _⟩ (Nat.le_of_ble_eq_true rfl) hl.1 (show decode cL_fighter 5 = .ok (.invokevirtual 7, 3) by decide +kernel) rfl hC (fun v h' H1 locs1 hp hP1 hw1 hz1 hk1 hS1 => ?_)
    obtain ⟨r, rfl, hpp⟩ := hPp v h' hp
    refine lv_i2l hx hb (show decode cL_fighter 8 = .ok (.i2l, 1) by decide +kernel) rfl ?_
    have hO1 : va_P D vwCl (oC cA qo f) H1 := hO.kept (fun k q hk => by
      rcases k with _ | k
      · have hl := vx_lt hO hk
        cases hk
        exact hk1 qo hl hq0
      · cases hk)
    refine va_last hx hb hK (hO1.app hP1) (oD hinj hq0) hS1 0 1 rfl rfl in1 (show decode cL_fighter 9 = .ok (.lastore, 1) by decide +kernel) (fun H2 locs2 hO2 _ hS2 => ?_)
    refine lv_goto (tgt := 17) hx hb (show decode cL_fighter 10 = .ok (.goto 7, 3) by decide +kernel) (by decide) ?_
    refine lv_iconst (v := 0) hx hb (show decode cL_fighter 17 = .ok (.iconst 0, 1) by decide +kernel) (by decide) ?_
    refine W.widen (k := 1) (n := 6) (by omega) (by omega) ?_
    exact W.iret (v := 0) hx hb hr (fun t ht hW => ⟨⟨0, h', _, hpp, rfl, by rw [ht]; exact fun k q hk => hO2 (k + 1) q hk, hw1, by rw [ht]; exact hO2.sub (ws' := oC cA qo _) [0] rfl⟩, hS2.F ht⟩) hS2.2.2 (show decode cL_fighter 18 = .ok (.ireturn, 1) by decide +kernel)
  · refine go_X (As := [vI x, vI w]) (rest := [.int 0, .ref qo]) ⟨hx, hb, hml, hown, hts⟩ hlt hK hinj hP hw (fun U hU hW => ⟨hX.go (locs := []) va_S.rf hU hW, (hE.narrow (fun q z => Or.inl z)).go (locs := []) va_S.rf hU hW⟩) hS (fun q z => Or.inl z) (n := 2) (by decide) stI2 (q := (RX11, TX11, 12)) rfl rfl rfl (by decide +kernel) (by decide +kernel) (by decide +kernel) (by decide +kernel) (by decide +kernel) (by decide +kernel) ⟨by show k + 11 ≤ k + 20; omega, by show 8 + (3 + 11) + (60 * k + 200) ≤ 60 * k + 400; omega⟩ ⟨Nat.le_refl _, Nat.le_refl _⟩ (Nat.le_of_ble_eq_true rfl) hl.1 (show decode cL_fighter 5 = .ok (.invokevirtual 7, 3) by decide +kernel) rfl hC (fun ce q9 H1 locs1 hP1 hz1 hk1 hS1 hce hcv hcl => ?_)
    have hO1 : va_P D vwCl (oC cA qo f) H1 := hO.kept (fun k q hk => by
      rcases k with _ | k
      · have hl := vx_lt hO hk
        cases hk
        exact hk1 qo hl hq0
      · cases hk)
    refine vx_catch (own := RL) (name := NSE) (E := NSE) (ce := ce) hown [] xe [] hxe (fun z hz => nomatch hz) (by unfold covers; rw [x1, x2]; rfl) (by rw [x4]; decide) (by rw [x4]; exact hts (.classLink RL 13 NSE) (by decide +kernel)) (hE.1.use _ (.castable NSE NSE) (by simp [nwL])) hce hcv hcl ?_
    rw [x3]
    refine lv_astore (lv' := [(4, .ref q9), (0, .ref (tr (11, 0))), (1, .int x), (2, .int w), (3, .ref qo)]) hx hb (show decode cL_fighter 13 = .ok (.astore 4, 2) by decide +kernel) hl (by decide) rfl (fun ls hl => ?_)
    refine lv_iconst (v := 1) hx hb (show decode cL_fighter 15 = .ok (.iconst 1, 1) by decide +kernel) (by decide) ?_
    exact W.iret (v := 1) hx hb hr (fun t ht hW => ⟨⟨1, h, f, hPp, rfl, by rw [ht]; exact hP1, hw, by rw [ht]; exact hO1⟩, hS1.F ht⟩) hS1.2.2 (show decode cL_fighter 16 = .ok (.ireturn, 1) by decide +kernel)
set_option maxHeartbeats 4000000 in
theorem h_seat {l : Launch} (hlt : l.stackTraces = false) {D : va_G} {cA : Nat → ClassId} {tr : Ad → Nat} {qo k : Nat} {h : Hp} {f : Nat → Int64} {x w : Int32} (hinj : Inj alC tr) (hw : hwf alC h) (hq0 : ¬ Aw alC tr qo) {Pp : Int32 → Hp → (Nat → Int64) → Prop}
    (hC : (∃ P', Ct alC mX11_seat k (vR 11 0 :: [vI x, vI w]) h P' ∧ ∀ v h', P' v h' → ∃ r : Int32, v = vI r ∧ Pp 0 h' (vp_updL f 0 r.toInt64)) ∨ (Cx alC mX11_seat k (vR 11 0 :: [vI x, vI w]) h ∧ Pp 1 h f)) :
    Met l yL_seat (Cond.codeWith yL_seat cL_seat 5 (some .int) [(0, 10, 13, 13)] :: gt) (rmh k) (HPc D cA tr qo h f [.ref (tr (11, 0)), .int x, .int w, .ref qo]) (HQc D cA tr qo Pp) 1 6 (AwO tr qo) := by
  refine va_MetW (cc := cL_seat) (maxL := 5) (ret := some .int) (hh := [(0, 10, 13, 13)]) (by decide) rfl ?_
  intro p e s m args below meth c s₁ B hml hv
  obtain ⟨rfl, hP, hO, hK, hX, hE⟩ := hv
  have hx := B.exec
  have hb := B.bytes
  have hr := B.returns
  have hts0 := atoms_spec (ws := Cond.codeWith yL_seat cL_seat 5 (some .int) [(0, 10, 13, 13)] :: gt) B.pre
  have hts := fun w hw => hts0 w (List.mem_cons_of_mem _ hw)
  have hown : s.vm.findClass RL = some m.cls := findClass_of_methodNamed B.named
  have hlocks := B.notSynchronized
  obtain ⟨m9, meth9, c9, hn9, hm9, hc9, -, -, ht9, -, -, -⟩ := Cond.codeWith_spec (hts0 _ List.mem_cons_self)
  cases Option.some.inj (hn9.symm.trans B.named)
  cases Option.some.inj (hm9.symm.trans B.method)
  cases Option.some.inj (hc9.symm.trans (Stand.of_body B).code)
  obtain ⟨xe, hxe, x1, x2, x3, x4⟩ := tab1 ht9
  have hS : va_S (AwO tr qo) s.heap s.heap [] := va_S.rf
  have hl := lv_entry ([.ref (tr (11, 0)), .int x, .int w, .ref qo]) (n := 5) (Nat.le_of_ble_eq_true rfl)
  rw [lg_entry_eq]
  generalize (lg_sl ([.ref (tr (11, 0)), .int x, .int w, .ref qo]) ++ List.replicate (5 - (lg_sl ([.ref (tr (11, 0)), .int x, .int w, .ref qo])).length) Slot.unset).toArray = ls at hl ⊢
  have hl : lv_has ls 5 [(0, .ref (tr (11, 0))), (1, .int x), (2, .int w), (3, .ref qo)] := hl
  refine lv_aload_n hx hb (show decode cL_seat 0 = .ok (.aload_n 3, 1) by decide +kernel) rfl (lv_at hl 3 rfl) ?_
  refine lv_iconst (v := 0) hx hb (show decode cL_seat 1 = .ok (.iconst 0, 1) by decide +kernel) (by decide) ?_
  refine lv_aload_n hx hb (show decode cL_seat 2 = .ok (.aload_n 0, 1) by decide +kernel) rfl (lv_at hl 0 rfl) ?_
  refine lv_iload_n hx hb (show decode cL_seat 3 = .ok (.iload_n 1, 1) by decide +kernel) rfl (lv_at hl 1 rfl) ?_
  refine lv_iload_n hx hb (show decode cL_seat 4 = .ok (.iload_n 2, 1) by decide +kernel) rfl (lv_at hl 2 rfl) ?_
  rcases hC with ⟨P', hC, hPp⟩ | ⟨hC, hPp⟩
  · refine go_V (As := [vI x, vI w]) (rest := [.int 0, .ref qo]) ⟨hx, hb, hml, hown, hts⟩ hK hinj hP hw (fun U hU hW => hX.go (locs := []) va_S.rf hU hW) hS (fun q z => Or.inl z) (n := 2) (by decide) stI2 (q := (RX11, TX11, 12)) rfl rfl rfl (by decide +kernel) (by decide +kernel) (by decide +kernel) (by decide +kernel) (by decide +kernel) (by decide +kernel) ⟨by show k + 1 ≤ k + 20; omega, by show 8 + (3 + 11) + (60 * k) ≤ 60 * k + 400; omega⟩ ⟨Nat.zero_le _, Nat.zero_le _⟩ (Nat.le_of_ble_eq_true rfl) hl.1 (show decode cL_seat 5 = .ok (.invokevirtual 15, 3) by decide +kernel) rfl hC (fun v h' H1 locs1 hp hP1 hw1 hz1 hk1 hS1 => ?_)
    obtain ⟨r, rfl, hpp⟩ := hPp v h' hp
    refine lv_i2l hx hb (show decode cL_seat 8 = .ok (.i2l, 1) by decide +kernel) rfl ?_
    have hO1 : va_P D vwCl (oC cA qo f) H1 := hO.kept (fun k q hk => by
      rcases k with _ | k
      · have hl := vx_lt hO hk
        cases hk
        exact hk1 qo hl hq0
      · cases hk)
    refine va_last hx hb hK (hO1.app hP1) (oD hinj hq0) hS1 0 1 rfl rfl in1 (show decode cL_seat 9 = .ok (.lastore, 1) by decide +kernel) (fun H2 locs2 hO2 _ hS2 => ?_)
    refine lv_goto (tgt := 17) hx hb (show decode cL_seat 10 = .ok (.goto 7, 3) by decide +kernel) (by decide) ?_
    refine lv_iconst (v := 0) hx hb (show decode cL_seat 17 = .ok (.iconst 0, 1) by decide +kernel) (by decide) ?_
    refine W.widen (k := 1) (n := 6) (by omega) (by omega) ?_
    exact W.iret (v := 0) hx hb hr (fun t ht hW => ⟨⟨0, h', _, hpp, rfl, by rw [ht]; exact fun k q hk => hO2 (k + 1) q hk, hw1, by rw [ht]; exact hO2.sub (ws' := oC cA qo _) [0] rfl⟩, hS2.F ht⟩) hS2.2.2 (show decode cL_seat 18 = .ok (.ireturn, 1) by decide +kernel)
  · refine go_X (As := [vI x, vI w]) (rest := [.int 0, .ref qo]) ⟨hx, hb, hml, hown, hts⟩ hlt hK hinj hP hw (fun U hU hW => ⟨hX.go (locs := []) va_S.rf hU hW, (hE.narrow (fun q z => Or.inl z)).go (locs := []) va_S.rf hU hW⟩) hS (fun q z => Or.inl z) (n := 2) (by decide) stI2 (q := (RX11, TX11, 12)) rfl rfl rfl (by decide +kernel) (by decide +kernel) (by decide +kernel) (by decide +kernel) (by decide +kernel) (by decide +kernel) ⟨by show k + 11 ≤ k + 20; omega, by show 8 + (3 + 11) + (60 * k + 200) ≤ 60 * k + 400; omega⟩ ⟨Nat.le_refl _, Nat.le_refl _⟩ (Nat.le_of_ble_eq_true rfl) hl.1 (show decode cL_seat 5 = .ok (.invokevirtual 15, 3) by decide +kernel) rfl hC (fun ce q9 H1 locs1 hP1 hz1 hk1 hS1 hce hcv hcl => ?_)
    have hO1 : va_P D vwCl (oC cA qo f) H1 := hO.kept (fun k q hk => by
      rcases k with _ | k
      · have hl := vx_lt hO hk
        cases hk
        exact hk1 qo hl hq0
      · cases hk)
    refine vx_catch (own := RL) (name := NSE) (E := NSE) (ce := ce) hown [] xe [] hxe (fun z hz => nomatch hz) (by unfold covers; rw [x1, x2]; rfl) (by rw [x4]; decide) (by rw [x4]; exact hts (.classLink RL 13 NSE) (by decide +kernel)) (hE.1.use _ (.castable NSE NSE) (by simp [nwL])) hce hcv hcl ?_
    rw [x3]
    refine lv_astore (lv' := [(4, .ref q9), (0, .ref (tr (11, 0))), (1, .int x), (2, .int w), (3, .ref qo)]) hx hb (show decode cL_seat 13 = .ok (.astore 4, 2) by decide +kernel) hl (by decide) rfl (fun ls hl => ?_)
    refine lv_iconst (v := 1) hx hb (show decode cL_seat 15 = .ok (.iconst 1, 1) by decide +kernel) (by decide) ?_
    exact W.iret (v := 1) hx hb hr (fun t ht hW => ⟨⟨1, h, f, hPp, rfl, by rw [ht]; exact hP1, hw, by rw [ht]; exact hO1⟩, hS1.F ht⟩) hS1.2.2 (show decode cL_seat 16 = .ok (.ireturn, 1) by decide +kernel)
set_option maxHeartbeats 4000000 in
theorem h_strength {l : Launch} (hlt : l.stackTraces = false) {D : va_G} {cA : Nat → ClassId} {tr : Ad → Nat} {qo k : Nat} {h : Hp} {f : Nat → Int64} {x w : Int32} (hinj : Inj alC tr) (hw : hwf alC h) (hq0 : ¬ Aw alC tr qo) {Pp : Int32 → Hp → (Nat → Int64) → Prop}
    (hC : (∃ P', Ct alC mX11_strength k (vR 11 0 :: [vI x, vI w]) h P' ∧ ∀ v h', P' v h' → ∃ r : Int32, v = vI r ∧ Pp 0 h' (vp_updL f 0 r.toInt64)) ∨ (Cx alC mX11_strength k (vR 11 0 :: [vI x, vI w]) h ∧ Pp 1 h f)) :
    Met l yL_strength (Cond.codeWith yL_strength cL_strength 5 (some .int) [(0, 10, 13, 13)] :: gt) (rmh k) (HPc D cA tr qo h f [.ref (tr (11, 0)), .int x, .int w, .ref qo]) (HQc D cA tr qo Pp) 1 6 (AwO tr qo) := by
  refine va_MetW (cc := cL_strength) (maxL := 5) (ret := some .int) (hh := [(0, 10, 13, 13)]) (by decide) rfl ?_
  intro p e s m args below meth c s₁ B hml hv
  obtain ⟨rfl, hP, hO, hK, hX, hE⟩ := hv
  have hx := B.exec
  have hb := B.bytes
  have hr := B.returns
  have hts0 := atoms_spec (ws := Cond.codeWith yL_strength cL_strength 5 (some .int) [(0, 10, 13, 13)] :: gt) B.pre
  have hts := fun w hw => hts0 w (List.mem_cons_of_mem _ hw)
  have hown : s.vm.findClass RL = some m.cls := findClass_of_methodNamed B.named
  have hlocks := B.notSynchronized
  obtain ⟨m9, meth9, c9, hn9, hm9, hc9, -, -, ht9, -, -, -⟩ := Cond.codeWith_spec (hts0 _ List.mem_cons_self)
  cases Option.some.inj (hn9.symm.trans B.named)
  cases Option.some.inj (hm9.symm.trans B.method)
  cases Option.some.inj (hc9.symm.trans (Stand.of_body B).code)
  obtain ⟨xe, hxe, x1, x2, x3, x4⟩ := tab1 ht9
  have hS : va_S (AwO tr qo) s.heap s.heap [] := va_S.rf
  have hl := lv_entry ([.ref (tr (11, 0)), .int x, .int w, .ref qo]) (n := 5) (Nat.le_of_ble_eq_true rfl)
  rw [lg_entry_eq]
  generalize (lg_sl ([.ref (tr (11, 0)), .int x, .int w, .ref qo]) ++ List.replicate (5 - (lg_sl ([.ref (tr (11, 0)), .int x, .int w, .ref qo])).length) Slot.unset).toArray = ls at hl ⊢
  have hl : lv_has ls 5 [(0, .ref (tr (11, 0))), (1, .int x), (2, .int w), (3, .ref qo)] := hl
  refine lv_aload_n hx hb (show decode cL_strength 0 = .ok (.aload_n 3, 1) by decide +kernel) rfl (lv_at hl 3 rfl) ?_
  refine lv_iconst (v := 0) hx hb (show decode cL_strength 1 = .ok (.iconst 0, 1) by decide +kernel) (by decide) ?_
  refine lv_aload_n hx hb (show decode cL_strength 2 = .ok (.aload_n 0, 1) by decide +kernel) rfl (lv_at hl 0 rfl) ?_
  refine lv_iload_n hx hb (show decode cL_strength 3 = .ok (.iload_n 1, 1) by decide +kernel) rfl (lv_at hl 1 rfl) ?_
  refine lv_iload_n hx hb (show decode cL_strength 4 = .ok (.iload_n 2, 1) by decide +kernel) rfl (lv_at hl 2 rfl) ?_
  rcases hC with ⟨P', hC, hPp⟩ | ⟨hC, hPp⟩
  · refine go_V (As := [vI x, vI w]) (rest := [.int 0, .ref qo]) ⟨hx, hb, hml, hown, hts⟩ hK hinj hP hw (fun U hU hW => hX.go (locs := []) va_S.rf hU hW) hS (fun q z => Or.inl z) (n := 2) (by decide) stI2 (q := (RX11, TX11, 12)) rfl rfl rfl (by decide +kernel) (by decide +kernel) (by decide +kernel) (by decide +kernel) (by decide +kernel) (by decide +kernel) ⟨by show k + 1 ≤ k + 20; omega, by show 8 + (3 + 11) + (60 * k) ≤ 60 * k + 400; omega⟩ ⟨Nat.zero_le _, Nat.zero_le _⟩ (Nat.le_of_ble_eq_true rfl) hl.1 (show decode cL_strength 5 = .ok (.invokevirtual 18, 3) by decide +kernel) rfl hC (fun v h' H1 locs1 hp hP1 hw1 hz1 hk1 hS1 => ?_)
    obtain ⟨r, rfl, hpp⟩ := hPp v h' hp
    refine lv_i2l hx hb (show decode cL_strength 8 = .ok (.i2l, 1) by decide +kernel) rfl ?_
    have hO1 : va_P D vwCl (oC cA qo f) H1 := hO.kept (fun k q hk => by
      rcases k with _ | k
      · have hl := vx_lt hO hk
        cases hk
        exact hk1 qo hl hq0
      · cases hk)
    refine va_last hx hb hK (hO1.app hP1) (oD hinj hq0) hS1 0 1 rfl rfl in1 (show decode cL_strength 9 = .ok (.lastore, 1) by decide +kernel) (fun H2 locs2 hO2 _ hS2 => ?_)
    refine lv_goto (tgt := 17) hx hb (show decode cL_strength 10 = .ok (.goto 7, 3) by decide +kernel) (by decide) ?_
    refine lv_iconst (v := 0) hx hb (show decode cL_strength 17 = .ok (.iconst 0, 1) by decide +kernel) (by decide) ?_
    refine W.widen (k := 1) (n := 6) (by omega) (by omega) ?_
    exact W.iret (v := 0) hx hb hr (fun t ht hW => ⟨⟨0, h', _, hpp, rfl, by rw [ht]; exact fun k q hk => hO2 (k + 1) q hk, hw1, by rw [ht]; exact hO2.sub (ws' := oC cA qo _) [0] rfl⟩, hS2.F ht⟩) hS2.2.2 (show decode cL_strength 18 = .ok (.ireturn, 1) by decide +kernel)
  · refine go_X (As := [vI x, vI w]) (rest := [.int 0, .ref qo]) ⟨hx, hb, hml, hown, hts⟩ hlt hK hinj hP hw (fun U hU hW => ⟨hX.go (locs := []) va_S.rf hU hW, (hE.narrow (fun q z => Or.inl z)).go (locs := []) va_S.rf hU hW⟩) hS (fun q z => Or.inl z) (n := 2) (by decide) stI2 (q := (RX11, TX11, 12)) rfl rfl rfl (by decide +kernel) (by decide +kernel) (by decide +kernel) (by decide +kernel) (by decide +kernel) (by decide +kernel) ⟨by show k + 11 ≤ k + 20; omega, by show 8 + (3 + 11) + (60 * k + 200) ≤ 60 * k + 400; omega⟩ ⟨Nat.le_refl _, Nat.le_refl _⟩ (Nat.le_of_ble_eq_true rfl) hl.1 (show decode cL_strength 5 = .ok (.invokevirtual 18, 3) by decide +kernel) rfl hC (fun ce q9 H1 locs1 hP1 hz1 hk1 hS1 hce hcv hcl => ?_)
    have hO1 : va_P D vwCl (oC cA qo f) H1 := hO.kept (fun k q hk => by
      rcases k with _ | k
      · have hl := vx_lt hO hk
        cases hk
        exact hk1 qo hl hq0
      · cases hk)
    refine vx_catch (own := RL) (name := NSE) (E := NSE) (ce := ce) hown [] xe [] hxe (fun z hz => nomatch hz) (by unfold covers; rw [x1, x2]; rfl) (by rw [x4]; decide) (by rw [x4]; exact hts (.classLink RL 13 NSE) (by decide +kernel)) (hE.1.use _ (.castable NSE NSE) (by simp [nwL])) hce hcv hcl ?_
    rw [x3]
    refine lv_astore (lv' := [(4, .ref q9), (0, .ref (tr (11, 0))), (1, .int x), (2, .int w), (3, .ref qo)]) hx hb (show decode cL_strength 13 = .ok (.astore 4, 2) by decide +kernel) hl (by decide) rfl (fun ls hl => ?_)
    refine lv_iconst (v := 1) hx hb (show decode cL_strength 15 = .ok (.iconst 1, 1) by decide +kernel) (by decide) ?_
    exact W.iret (v := 1) hx hb hr (fun t ht hW => ⟨⟨1, h, f, hPp, rfl, by rw [ht]; exact hP1, hw, by rw [ht]; exact hO1⟩, hS1.F ht⟩) hS1.2.2 (show decode cL_strength 16 = .ok (.ireturn, 1) by decide +kernel)
set_option maxHeartbeats 4000000 in
theorem h_row {l : Launch} (hlt : l.stackTraces = false) {D : va_G} {cA : Nat → ClassId} {tr : Ad → Nat} {qo k : Nat} {h : Hp} {f : Nat → Int64} {x : Int32} (hinj : Inj alC tr) (hw : hwf alC h) (hq0 : ¬ Aw alC tr qo) {Pp : Int32 → Hp → (Nat → Int64) → Prop}
    (hC : (∃ P', Ct alC mX11_row k (vR 11 0 :: [vI x]) h P' ∧ ∀ v h', P' v h' → ∃ r : Int64, v = vL r ∧ Pp 0 h' (vp_updL f 0 r)) ∨ (Cx alC mX11_row k (vR 11 0 :: [vI x]) h ∧ Pp 1 h f)) :
    Met l yL_row (Cond.codeWith yL_row cL_row 4 (some .int) [(0, 8, 11, 13)] :: gt) (rmh k) (HPc D cA tr qo h f [.ref (tr (11, 0)), .int x, .ref qo]) (HQc D cA tr qo Pp) 1 6 (AwO tr qo) := by
  refine va_MetW (cc := cL_row) (maxL := 4) (ret := some .int) (hh := [(0, 8, 11, 13)]) (by decide) rfl ?_
  intro p e s m args below meth c s₁ B hml hv
  obtain ⟨rfl, hP, hO, hK, hX, hE⟩ := hv
  have hx := B.exec
  have hb := B.bytes
  have hr := B.returns
  have hts0 := atoms_spec (ws := Cond.codeWith yL_row cL_row 4 (some .int) [(0, 8, 11, 13)] :: gt) B.pre
  have hts := fun w hw => hts0 w (List.mem_cons_of_mem _ hw)
  have hown : s.vm.findClass RL = some m.cls := findClass_of_methodNamed B.named
  have hlocks := B.notSynchronized
  obtain ⟨m9, meth9, c9, hn9, hm9, hc9, -, -, ht9, -, -, -⟩ := Cond.codeWith_spec (hts0 _ List.mem_cons_self)
  cases Option.some.inj (hn9.symm.trans B.named)
  cases Option.some.inj (hm9.symm.trans B.method)
  cases Option.some.inj (hc9.symm.trans (Stand.of_body B).code)
  obtain ⟨xe, hxe, x1, x2, x3, x4⟩ := tab1 ht9
  have hS : va_S (AwO tr qo) s.heap s.heap [] := va_S.rf
  have hl := lv_entry ([.ref (tr (11, 0)), .int x, .ref qo]) (n := 4) (Nat.le_of_ble_eq_true rfl)
  rw [lg_entry_eq]
  generalize (lg_sl ([.ref (tr (11, 0)), .int x, .ref qo]) ++ List.replicate (4 - (lg_sl ([.ref (tr (11, 0)), .int x, .ref qo])).length) Slot.unset).toArray = ls at hl ⊢
  have hl : lv_has ls 4 [(0, .ref (tr (11, 0))), (1, .int x), (2, .ref qo)] := hl
  refine lv_aload_n hx hb (show decode cL_row 0 = .ok (.aload_n 2, 1) by decide +kernel) rfl (lv_at hl 2 rfl) ?_
  refine lv_iconst (v := 0) hx hb (show decode cL_row 1 = .ok (.iconst 0, 1) by decide +kernel) (by decide) ?_
  refine lv_aload_n hx hb (show decode cL_row 2 = .ok (.aload_n 0, 1) by decide +kernel) rfl (lv_at hl 0 rfl) ?_
  refine lv_iload_n hx hb (show decode cL_row 3 = .ok (.iload_n 1, 1) by decide +kernel) rfl (lv_at hl 1 rfl) ?_
  rcases hC with ⟨P', hC, hPp⟩ | ⟨hC, hPp⟩
  · refine go_V (As := [vI x]) (rest := [.int 0, .ref qo]) ⟨hx, hb, hml, hown, hts⟩ hK hinj hP hw (fun U hU hW => hX.go (locs := []) va_S.rf hU hW) hS (fun q z => Or.inl z) (n := 1) (by decide) stI1 (q := (RX11, TX11, 12)) rfl rfl rfl (by decide +kernel) (by decide +kernel) (by decide +kernel) (by decide +kernel) (by decide +kernel) (by decide +kernel) ⟨by show k + 1 ≤ k + 20; omega, by show 8 + (2 + 11) + (60 * k) ≤ 60 * k + 400; omega⟩ ⟨Nat.zero_le _, Nat.zero_le _⟩ (Nat.le_of_ble_eq_true rfl) hl.1 (show decode cL_row 4 = .ok (.invokevirtual 21, 3) by decide +kernel) rfl hC (fun v h' H1 locs1 hp hP1 hw1 hz1 hk1 hS1 => ?_)
    obtain ⟨r, rfl, hpp⟩ := hPp v h' hp
    have hO1 : va_P D vwCl (oC cA qo f) H1 := hO.kept (fun k q hk => by
      rcases k with _ | k
      · have hl := vx_lt hO hk
        cases hk
        exact hk1 qo hl hq0
      · cases hk)
    refine va_last hx hb hK (hO1.app hP1) (oD hinj hq0) hS1 0 1 rfl rfl in1 (show decode cL_row 7 = .ok (.lastore, 1) by decide +kernel) (fun H2 locs2 hO2 _ hS2 => ?_)
    refine lv_goto (tgt := 14) hx hb (show decode cL_row 8 = .ok (.goto 6, 3) by decide +kernel) (by decide) ?_
    refine lv_iconst (v := 0) hx hb (show decode cL_row 14 = .ok (.iconst 0, 1) by decide +kernel) (by decide) ?_
    refine W.widen (k := 1) (n := 6) (by omega) (by omega) ?_
    exact W.iret (v := 0) hx hb hr (fun t ht hW => ⟨⟨0, h', _, hpp, rfl, by rw [ht]; exact fun k q hk => hO2 (k + 1) q hk, hw1, by rw [ht]; exact hO2.sub (ws' := oC cA qo _) [0] rfl⟩, hS2.F ht⟩) hS2.2.2 (show decode cL_row 15 = .ok (.ireturn, 1) by decide +kernel)
  · refine go_X (As := [vI x]) (rest := [.int 0, .ref qo]) ⟨hx, hb, hml, hown, hts⟩ hlt hK hinj hP hw (fun U hU hW => ⟨hX.go (locs := []) va_S.rf hU hW, (hE.narrow (fun q z => Or.inl z)).go (locs := []) va_S.rf hU hW⟩) hS (fun q z => Or.inl z) (n := 1) (by decide) stI1 (q := (RX11, TX11, 12)) rfl rfl rfl (by decide +kernel) (by decide +kernel) (by decide +kernel) (by decide +kernel) (by decide +kernel) (by decide +kernel) ⟨by show k + 11 ≤ k + 20; omega, by show 8 + (2 + 11) + (60 * k + 200) ≤ 60 * k + 400; omega⟩ ⟨Nat.le_refl _, Nat.le_refl _⟩ (Nat.le_of_ble_eq_true rfl) hl.1 (show decode cL_row 4 = .ok (.invokevirtual 21, 3) by decide +kernel) rfl hC (fun ce q9 H1 locs1 hP1 hz1 hk1 hS1 hce hcv hcl => ?_)
    have hO1 : va_P D vwCl (oC cA qo f) H1 := hO.kept (fun k q hk => by
      rcases k with _ | k
      · have hl := vx_lt hO hk
        cases hk
        exact hk1 qo hl hq0
      · cases hk)
    refine vx_catch (own := RL) (name := NSE) (E := NSE) (ce := ce) hown [] xe [] hxe (fun z hz => nomatch hz) (by unfold covers; rw [x1, x2]; rfl) (by rw [x4]; decide) (by rw [x4]; exact hts (.classLink RL 13 NSE) (by decide +kernel)) (hE.1.use _ (.castable NSE NSE) (by simp [nwL])) hce hcv hcl ?_
    rw [x3]
    refine lv_astore_n (lv' := [(3, .ref q9), (0, .ref (tr (11, 0))), (1, .int x), (2, .ref qo)]) hx hb (show decode cL_row 11 = .ok (.astore_n 3, 1) by decide +kernel) rfl hl (by decide) rfl (fun ls hl => ?_)
    refine lv_iconst (v := 1) hx hb (show decode cL_row 12 = .ok (.iconst 1, 1) by decide +kernel) (by decide) ?_
    exact W.iret (v := 1) hx hb hr (fun t ht hW => ⟨⟨1, h, f, hPp, rfl, by rw [ht]; exact hP1, hw, by rw [ht]; exact hO1⟩, hS1.F ht⟩) hS1.2.2 (show decode cL_row 13 = .ok (.ireturn, 1) by decide +kernel)
