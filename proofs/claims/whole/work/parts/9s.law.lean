/-! THE CLAIM OUT OF ONE WALK OF THE LAW'S BODY. Your part is whole_start (and what it stands on); all else here is the same for every law, but numbers. -/
def R_law : String := "ByTheThumbsLaw"
def lw_P (b : Addr) (xs : List Int32) (args : Array Value) (s : State) : Prop := args = #[.ref b] ∧ s.IntsAt b xs ∧ xs.length ≤ 2560 ∧ (Jvm.Cond.and given_1 narrow_1).before args s = true
def lw_Q (_ : Array Value) (s : State) (o : Outcome) (t : State) : Prop := o = .returned (some (.int 1)) ∧ Framed s o t [] 601024 7293034
def lw_Z (below : List Frame) (a : Array Value) (s : State) : State → Prop := fun t => ∃ o, t.status = .running ∧ Ended t below o ∧ lw_Q a s o t
/-- the law's own end, with 1 on the stack, nothing written that was there before, its room as the claim has it -/
theorem lw_ret {p : Program} {l : Launch} {e : Env} {s : State} {m : MethodId} {below : List Frame} {meth : Method} {c : Code} {b : Nat} (hx : p.tables.exec = Jvm.exec) (hb : c.code = code) (hr : meth.sig.returnType = ret) (hlocks : meth.locks = false) {pc : Nat} {H : Heap} {ls : Array Slot} (hdg : decode code pc = .ok (.ireturn, 1)) : W p l e room_1 s m #[Value.ref b] below meth c H [] 601024 7293034 (lw_Z below #[Value.ref b] s) (F0 m pc ls [.int 1]) := by
  intro T hT X
  obtain ⟨fs, hret, hrun, hended, hW, hframe⟩ := X.leave (v := some (.int 1)) (hlocks := hlocks) (fun h => by rw [hr] at h; cases h)
  have hmeth' : T.vm.method? m = some meth := X.method'
  refine ⟨T.setFrames fs, ?_, .returned (some (.int 1)), hrun, hended, rfl, ⟨_, rfl⟩, hW, hframe⟩
  jvm_step X.here [X.here.top, hx, hb, hdg, hmeth', hr, ret, narrow_b1]
  (try refine ⟨rfl, ?_⟩); (try refine ⟨rfl, ?_⟩)
  first | (intro acts; rw [hret _ acts rfl rfl rfl]) | rw [hret _ _ rfl rfl rfl]
  exact Steps.refl _
/-- what holds at the law's entry: the machine, the code, the tables' words (any of lw_tbl by 'hts w (by decide +kernel)'), the script of L ints xs at the cell b, what the Statement gives of the start (any of its parts by flat_of_before) -/
def lw_At (p : Program) (s : State) (m : MethodId) (meth : Method) (c : Code) (b L : Nat) (xs : Nat → Int32) : Prop :=
  p.tables.exec = Jvm.exec ∧ c.code = code ∧ meth.sig.returnType = ret ∧ c.maxLocals = 8 ∧ s.vm.findClass R_law = some m.cls ∧ (∀ w ∈ lw_tbl, w.before #[Value.ref b] s = true) ∧ va_X b L xs s s.heap ∧ b < s.heap.size ∧ meth.locks = false ∧ (Jvm.Cond.and given_1 narrow_1).before #[Value.ref b] s = true
/-! the law's context -/
def AL (s : State) : Nat → Prop := fun q => s.heap.size ≤ q
def LC (p : Program) (l : Launch) (s : State) (m : MethodId) (meth : Method) (c : Code) (b L : Nat) (xs : Nat → Int32) (Dg : va_G) (cA : Nat → ClassId) (trX trM : Ad → Nat) (qo : Nat) : Prop :=
  lw_At p s m meth c b L xs ∧ l.stackTraces = false ∧ va_K Dg vwCl (tysL cA) s ∧ Inj alC trX ∧ Inj alM trM ∧ (∀ q, Aw alC trX q → AL s q) ∧ (∀ q, Aw alM trM q → AL s q) ∧ AL s qo ∧ (∀ q, Aw alC trX q → ¬ Aw alM trM q) ∧ ¬ Aw alC trX qo ∧ ¬ Aw alM trM qo ∧ L ≤ 2560 ∧
  ∀ (H : Heap) (locs : List Loc), va_S (AL s) s.heap H locs → ∀ U : State, U.heap = H → s.WarmedH U.vm → SX alC trX U ∧ SX alM trM U ∧ EX (AwO trX qo) U
/-- the three worlds, apart -/
def LD (s : State) (Dg : va_G) (cA : Nat → ClassId) (trX trM : Ad → Nat) (qo : Nat) (hX hM : Hp) (f : Nat → Int64) (H : Heap) (locs : List Loc) : Prop :=
  va_P Dg vwCl (wof cA trX hX alC) H ∧ va_P Dg vwCl (wof cA trM hM alM) H ∧ va_P Dg vwCl (oC cA qo f) H ∧ va_S (AL s) s.heap H locs ∧ hwf alC hX ∧ hwf alM hM
def LV (b : Nat) (trX trM : Ad → Nat) (qo i : Nat) : List (Nat × Value) := [(0, .ref b), (1, .ref (trX (11, 0))), (2, .ref (trM (12, 0))), (3, .ref qo), (4, .int (nI i))]
/-- what a called method's words are -/
def WO (ix : Nat) (M : MT) (n : Nat) : Prop := Cond.methodLink RL ix M.1 ∈ gt ∧ Cond.instanceMethod M.1 ∈ gt ∧ Cond.selects M.1.cls M.1 M.1 ∈ gt ∧ Cond.initialized M.1.cls ∈ gt ∧ Cond.code M.1 M.2.1 M.2.2.1 M.2.2.2 ∈ gt ∧ (M.1.cls ≠ "java/lang/invoke/MethodHandle" ∧ M.1.cls ≠ "java/lang/invoke/VarHandle" ∧ (parseMethodDescriptor M.1.desc).map (fun d => d.parameters.length) = some n) ∧ M.2.2.1 ≤ 100 ∧ M.2.2.2.isSome = true
abbrev dA (pc : Nat) (k : Int) : Prop := decode code pc = .ok (.aload_n 0, 1) ∧ decode code (pc + 1) = .ok (.iload 4, 2) ∧ decode code (pc + 3) = .ok (.iconst k, 1) ∧ decode code (pc + 4) = .ok (.iadd, 1) ∧ decode code (pc + 5) = .ok (.iaload, 1)
theorem gt_lw {w : Cond} (h : w ∈ gt) : w ∈ lw_tbl := (List.mem_filter.mp h).1
theorem kept_o {Dg : va_G} {cA : Nat → ClassId} {qo : Nat} {f : Nat → Int64} {H H1 : Heap} {A : Nat → Prop} (h : va_P Dg vwCl (oC cA qo f) H) (hk : ∀ q : Nat, q < H.size → ¬ A q → H1[q]? = H[q]?) (hq : ¬ A qo) : va_P Dg vwCl (oC cA qo f) H1 := h.kept (fun k q hk1 => by
  rcases k with _ | k
  · have hl := vx_lt h hk1
    cases hk1
    exact hk qo hl hq
  · cases hk1)
theorem kept_w {Dg : va_G} {cA : Nat → ClassId} {tr : Ad → Nat} {h : Hp} {al : List Ad} {H H1 : Heap} {A : Nat → Prop} (hP : va_P Dg vwCl (wof cA tr h al) H) (hk : ∀ q : Nat, q < H.size → ¬ A q → H1[q]? = H[q]?) (hq : ∀ q, Aw al tr q → ¬ A q) : va_P Dg vwCl (wof cA tr h al) H1 := hP.kept (fun k q hk1 => hk _ (vx_lt hP hk1) (hq _ (wof_ad hk1)))
section LAW
variable {p : Program} {l : Launch} {e : Env} {s : State} {m : MethodId} {below : List Frame} {meth : Method} {c : Code} {b L : Nat} {xs : Nat → Int32} {Dg : va_G} {cA : Nat → ClassId} {trX trM : Ad → Nat} {qo : Nat} {H : Heap} {locs : List Loc} {cells slots pc : Nat} {ls : Array Slot} {st : List Value} {Q : State → Prop}
theorem l_arg (C : LC p l s m meth c b L xs Dg cA trX trM qo) (hS : va_S (AL s) s.heap H locs) {i : Nat} (hl : lv_has ls 8 (LV b trX trM qo i)) (kn : Nat) (k : Int) (hv : Int32.ofInt k = nI kn) (hk : i + kn < L) (hd : dA pc k) (kk : W p l e room_1 s m #[Value.ref b] below meth c H locs cells slots Q (F0 m (pc + 6) ls (.int (xs (i + kn)) :: st))) : W p l e room_1 s m #[Value.ref b] below meth c H locs cells slots Q (F0 m pc ls st) := by
  obtain ⟨C0, -, -, -, -, -, -, -, -, -, -, hL, -⟩ := C
  obtain ⟨hx, hb, hr, hml, hown, hts, hX, hbl, hlocks, hgv⟩ := C0
  refine lv_aload_n hx hb hd.1 rfl (lv_at hl 0 rfl) ?_
  refine lv_iload hx hb hd.2.1 (lv_at hl 4 rfl) ?_
  refine lv_iconst (v := nI kn) hx hb hd.2.2.1 hv ?_
  refine lv_iadd hx hb hd.2.2.2.1 ?_
  rw [nI_add]
  refine va_sld (A := AL s) hx hb hX hbl (Nat.not_le.mpr hbl) hS (ix1 L hk (by omega)) hd.2.2.2.2 ?_
  rw [nI_clamp (show i + kn < 2 ^ 31 by omega)]
  exact kk
theorem l_X (C : LC p l s m meth c b L xs Dg cA trX trM qo) {hX hM : Hp} {f : Nat → Int64} (ld : LD s Dg cA trX trM qo hX hM f H locs) (hls : ls.size = 8) {ix n : Nat} {Mx : MT} {As : List AV} {rest : List Value} {P' : AV → Hp → Prop} (w : WO ix Mx n) (hcls : Mx.1.cls = RX11) (hn : As.length = n) (hsA : stok alC As) (hc : cells ≤ room_1.cells ∧ slots ≤ room_1.slots) (hcat : (rest.map fun v => v.category).sum ≤ 8) (hd : decode code pc = .ok (.invokevirtual ix, 3)) (hC : Ct alC Mx 1000 (vR 11 0 :: As) hX P')
    (kk : ∀ (v : AV) (h' : Hp) (H1 : Heap) (locs1 : List Loc), P' v h' → LD s Dg cA trX trM qo h' hM f H1 locs1 → W p l e room_1 s m #[Value.ref b] below meth c H1 locs1 cells slots Q (F0 m (pc + 3) ls (trV trX v :: rest))) : W p l e room_1 s m #[Value.ref b] below meth c H locs cells slots Q (F0 m pc ls ((As.map (trV trX)).reverse ++ .ref (trX (11, 0)) :: rest)) := by
  obtain ⟨C0, hlt, hK, iX, iM, aX, aM, ao, hap, hq1, hq2, hL, hsx⟩ := C
  obtain ⟨hx, hb, hr, hml, hown, hts, hXs, hbl, hlocks, hgv⟩ := C0
  obtain ⟨l1, l2, l3, l4, l5, l6⟩ := ld
  obtain ⟨w1, w2, w3, w4, w5, w6, w7, w8⟩ := w
  obtain ⟨ty, hty⟩ := Option.isSome_iff_exists.mp w8
  refine go_V (al := alC) (ci := 11) (i := 0) (q := (RX11, TX11, 12)) (k := 1000) ⟨hx, hb, hml, hown, fun w hw => hts w (gt_lw hw)⟩ hK iX l1 l5 (fun U hU hW => (hsx H locs l4 U hU hW).1) l4 aX (by decide) hsA rfl hcls.symm rfl w1 w2 w3 w4 w5 w6 ⟨by decide, by show 8 + (Mx.2.2.1 + 11) + 60 * 1000 ≤ 84000; omega⟩ hc hcat hls hd hn hC (fun v h' H1 locs1 hp hP1 hw1 hz1 hk1 hS1 => ?_)
  rw [hty]
  exact kk v h' H1 locs1 hp ⟨hP1, kept_w l2 hk1 (fun q z1 z2 => hap q z2 z1), kept_o l3 hk1 hq1, hS1, hw1, l6⟩
theorem l_M (C : LC p l s m meth c b L xs Dg cA trX trM qo) {hX hM : Hp} {f : Nat → Int64} (ld : LD s Dg cA trX trM qo hX hM f H locs) (hls : ls.size = 8) {ix n : Nat} {Mx : MT} {As : List AV} {rest : List Value} {P' : AV → Hp → Prop} (w : WO ix Mx n) (hcls : Mx.1.cls = RX12) (hn : As.length = n) (hsA : stok alM As) (hc : cells ≤ room_1.cells ∧ slots ≤ room_1.slots) (hcat : (rest.map fun v => v.category).sum ≤ 8) (hd : decode code pc = .ok (.invokevirtual ix, 3)) (hC : Ct alM Mx 1000 (vR 12 0 :: As) hM P')
    (kk : ∀ (v : AV) (h' : Hp) (H1 : Heap) (locs1 : List Loc), P' v h' → LD s Dg cA trX trM qo hX h' f H1 locs1 → W p l e room_1 s m #[Value.ref b] below meth c H1 locs1 cells slots Q (F0 m (pc + 3) ls (trV trM v :: rest))) : W p l e room_1 s m #[Value.ref b] below meth c H locs cells slots Q (F0 m pc ls ((As.map (trV trM)).reverse ++ .ref (trM (12, 0)) :: rest)) := by
  obtain ⟨C0, hlt, hK, iX, iM, aX, aM, ao, hap, hq1, hq2, hL, hsx⟩ := C
  obtain ⟨hx, hb, hr, hml, hown, hts, hXs, hbl, hlocks, hgv⟩ := C0
  obtain ⟨l1, l2, l3, l4, l5, l6⟩ := ld
  obtain ⟨w1, w2, w3, w4, w5, w6, w7, w8⟩ := w
  obtain ⟨ty, hty⟩ := Option.isSome_iff_exists.mp w8
  refine go_V (al := alM) (ci := 12) (i := 0) (q := (RX12, TX12, 49)) (k := 1000) ⟨hx, hb, hml, hown, fun w hw => hts w (gt_lw hw)⟩ hK iM l2 l6 (fun U hU hW => (hsx H locs l4 U hU hW).2.1) l4 aM (by decide) hsA rfl hcls.symm rfl w1 w2 w3 w4 w5 w6 ⟨by decide, by show 8 + (Mx.2.2.1 + 11) + 60 * 1000 ≤ 84000; omega⟩ hc hcat hls hd hn hC (fun v h' H1 locs1 hp hP1 hw1 hz1 hk1 hS1 => ?_)
  rw [hty]
  exact kk v h' H1 locs1 hp ⟨kept_w l1 hk1 (fun q z1 z2 => hap q z1 z2), hP1, kept_o l3 hk1 hq2, hS1, l5, hw1⟩
/-- what stands behind a case -/
def NXT (p : Program) (l : Launch) (e : Env) (s : State) (m : MethodId) (below : List Frame) (meth : Method) (c : Code) (b : Nat) (Dg : va_G) (cA : Nat → ClassId) (trX trM : Ad → Nat) (qo i Dn B cells slots : Nat) (Q : State → Prop) : Prop := ∀ (g' : GS) (hX' hM' : Hp) (f' : Nat → Int64) (H' : Heap) (locs' : List Loc) (ls' : Array Slot), LD s Dg cA trX trM qo hX' hM' f' H' locs' → CI hX' g' → MI (B + 1) hM' g' → Ok (Dn + 2000) g' → lv_has ls' 8 (LV b trX trM qo i) → W p l e room_1 s m #[Value.ref b] below meth c H' locs' (cells + 1) (slots + 6) Q (F0 m 1639 ls' [])
theorem stIn {al : List Ad} : ∀ (ys : List Int32), stok al (ys.map vI)
  | [] => fun v hv => by cases hv
  | y :: ys => sc wfI (stIn ys)
abbrev D0 (pc ix im : Nat) (off : Int) : Prop := decode code pc = .ok (.aload_n 1, 1) ∧ decode code (pc + 1) = .ok (.invokevirtual ix, 3) ∧ decode code (pc + 4) = .ok (.aload_n 2, 1) ∧ decode code (pc + 5) = .ok (.invokevirtual im, 3) ∧ decode code (pc + 8) = .ok (.if_icmp .eq off, 3) ∧ ((pc : Int) + 8) + off = 1639
theorem case0 (C : LC p l s m meth c b L xs Dg cA trX trM qo) {hX hM : Hp} {f : Nat → Int64} (ld : LD s Dg cA trX trM qo hX hM f H locs) {i Dn B ix im : Nat} {off : Int} {Mx Mm : MT} (hl : lv_has ls 8 (LV b trX trM qo i)) (hi : i + 5 ≤ L) (hc : cells ≤ room_1.cells ∧ slots ≤ room_1.slots) (wx : WO ix Mx 0) (wm : WO im Mm 0) (hcx : Mx.1.cls = RX11) (hcm : Mm.1.cls = RX12) (hd : D0 pc ix im off) (hp : Pair Mx Mm [] hX hM Dn B) (nx : NXT p l e s m below meth c b Dg cA trX trM qo i Dn B cells slots Q) : W p l e room_1 s m #[Value.ref b] below meth c H locs cells slots Q (F0 m pc ls []) := by
  have hx := C.1.1
  have hb := C.1.2.1
  obtain ⟨PX, hCX, hCM⟩ := hp
  refine lv_aload_n hx hb hd.1 rfl (lv_at hl 1 rfl) ?_
  refine l_X C ld hl.1 (As := []) (rest := []) wx hcx rfl (stIn []) hc (Nat.le_of_ble_eq_true rfl) hd.2.1 hCX (fun v h1 H1 locs1 hp1 ld1 => ?_)
  obtain ⟨r, g', rfl, hci, hok, hCM⟩ := hCM v h1 hp1
  refine lv_aload_n hx hb hd.2.2.1 rfl (lv_at hl 2 rfl) ?_
  refine l_M C ld1 hl.1 (As := []) (rest := [.int r]) wm hcm rfl (stIn []) hc (Nat.le_of_ble_eq_true rfl) hd.2.2.2.1 hCM (fun v h2 H2 locs2 hp2 ld2 => ?_)
  obtain ⟨rfl, hmi⟩ := hp2
  refine lv_icmp_eq (tgt := 1639) hx hb hd.2.2.2.2.1 hd.2.2.2.2.2 (fun _ => ?_) (fun z => absurd rfl z)
  exact W.widen (by omega) (by omega) (nx g' h1 h2 f H2 locs2 ls ld2 hci hmi hok hl)
abbrev D1 (pc ix im : Nat) (off : Int) : Prop := decode code pc = .ok (.aload_n 1, 1) ∧ dA (pc + 1) 1 ∧ decode code (pc + 7) = .ok (.invokevirtual ix, 3) ∧ decode code (pc + 10) = .ok (.aload_n 2, 1) ∧ dA (pc + 11) 1 ∧ decode code (pc + 17) = .ok (.invokevirtual im, 3) ∧ decode code (pc + 20) = .ok (.if_icmp .eq off, 3) ∧ ((pc : Int) + 20) + off = 1639
theorem case1 (C : LC p l s m meth c b L xs Dg cA trX trM qo) {hX hM : Hp} {f : Nat → Int64} (ld : LD s Dg cA trX trM qo hX hM f H locs) {i Dn B ix im : Nat} {off : Int} {Mx Mm : MT} (hl : lv_has ls 8 (LV b trX trM qo i)) (hi : i + 5 ≤ L) (hc : cells ≤ room_1.cells ∧ slots ≤ room_1.slots) (wx : WO ix Mx 1) (wm : WO im Mm 1) (hcx : Mx.1.cls = RX11) (hcm : Mm.1.cls = RX12) (hd : D1 pc ix im off) (hp : Pair Mx Mm [vI (xs (i + 1))] hX hM Dn B) (nx : NXT p l e s m below meth c b Dg cA trX trM qo i Dn B cells slots Q) : W p l e room_1 s m #[Value.ref b] below meth c H locs cells slots Q (F0 m pc ls []) := by
  have hx := C.1.1
  have hb := C.1.2.1
  obtain ⟨PX, hCX, hCM⟩ := hp
  refine lv_aload_n hx hb hd.1 rfl (lv_at hl 1 rfl) ?_
  refine l_arg C ld.2.2.2.1 hl 1 1 rfl (by omega) hd.2.1 ?_
  refine l_X C ld hl.1 (As := [vI (xs (i + 1))]) (rest := []) wx hcx rfl (stIn [xs (i + 1)]) hc (Nat.le_of_ble_eq_true rfl) hd.2.2.1 hCX (fun v h1 H1 locs1 hp1 ld1 => ?_)
  obtain ⟨r, g', rfl, hci, hok, hCM⟩ := hCM v h1 hp1
  refine lv_aload_n hx hb hd.2.2.2.1 rfl (lv_at hl 2 rfl) ?_
  refine l_arg C ld1.2.2.2.1 hl 1 1 rfl (by omega) hd.2.2.2.2.1 ?_
  refine l_M C ld1 hl.1 (As := [vI (xs (i + 1))]) (rest := [.int r]) wm hcm rfl (stIn [xs (i + 1)]) hc (Nat.le_of_ble_eq_true rfl) hd.2.2.2.2.2.1 hCM (fun v h2 H2 locs2 hp2 ld2 => ?_)
  obtain ⟨rfl, hmi⟩ := hp2
  refine lv_icmp_eq (tgt := 1639) hx hb hd.2.2.2.2.2.2.1 hd.2.2.2.2.2.2.2 (fun _ => ?_) (fun z => absurd rfl z)
  exact W.widen (by omega) (by omega) (nx g' h1 h2 f H2 locs2 ls ld2 hci hmi hok hl)
abbrev D2 (pc ix im : Nat) (off : Int) : Prop := decode code pc = .ok (.aload_n 1, 1) ∧ dA (pc + 1) 1 ∧ dA (pc + 7) 2 ∧ decode code (pc + 13) = .ok (.invokevirtual ix, 3) ∧ decode code (pc + 16) = .ok (.aload_n 2, 1) ∧ dA (pc + 17) 1 ∧ dA (pc + 23) 2 ∧ decode code (pc + 29) = .ok (.invokevirtual im, 3) ∧ decode code (pc + 32) = .ok (.if_icmp .eq off, 3) ∧ ((pc : Int) + 32) + off = 1639
theorem case2 (C : LC p l s m meth c b L xs Dg cA trX trM qo) {hX hM : Hp} {f : Nat → Int64} (ld : LD s Dg cA trX trM qo hX hM f H locs) {i Dn B ix im : Nat} {off : Int} {Mx Mm : MT} (hl : lv_has ls 8 (LV b trX trM qo i)) (hi : i + 5 ≤ L) (hc : cells ≤ room_1.cells ∧ slots ≤ room_1.slots) (wx : WO ix Mx 2) (wm : WO im Mm 2) (hcx : Mx.1.cls = RX11) (hcm : Mm.1.cls = RX12) (hd : D2 pc ix im off) (hp : Pair Mx Mm [vI (xs (i + 1)), vI (xs (i + 2))] hX hM Dn B) (nx : NXT p l e s m below meth c b Dg cA trX trM qo i Dn B cells slots Q) : W p l e room_1 s m #[Value.ref b] below meth c H locs cells slots Q (F0 m pc ls []) := by
  have hx := C.1.1
  have hb := C.1.2.1
  obtain ⟨PX, hCX, hCM⟩ := hp
  refine lv_aload_n hx hb hd.1 rfl (lv_at hl 1 rfl) ?_
  refine l_arg C ld.2.2.2.1 hl 1 1 rfl (by omega) hd.2.1 ?_
  refine l_arg C ld.2.2.2.1 hl 2 2 rfl (by omega) hd.2.2.1 ?_
  refine l_X C ld hl.1 (As := [vI (xs (i + 1)), vI (xs (i + 2))]) (rest := []) wx hcx rfl (stIn [xs (i + 1), xs (i + 2)]) hc (Nat.le_of_ble_eq_true rfl) hd.2.2.2.1 hCX (fun v h1 H1 locs1 hp1 ld1 => ?_)
  obtain ⟨r, g', rfl, hci, hok, hCM⟩ := hCM v h1 hp1
  refine lv_aload_n hx hb hd.2.2.2.2.1 rfl (lv_at hl 2 rfl) ?_
  refine l_arg C ld1.2.2.2.1 hl 1 1 rfl (by omega) hd.2.2.2.2.2.1 ?_
  refine l_arg C ld1.2.2.2.1 hl 2 2 rfl (by omega) hd.2.2.2.2.2.2.1 ?_
  refine l_M C ld1 hl.1 (As := [vI (xs (i + 1)), vI (xs (i + 2))]) (rest := [.int r]) wm hcm rfl (stIn [xs (i + 1), xs (i + 2)]) hc (Nat.le_of_ble_eq_true rfl) hd.2.2.2.2.2.2.2.1 hCM (fun v h2 H2 locs2 hp2 ld2 => ?_)
  obtain ⟨rfl, hmi⟩ := hp2
  refine lv_icmp_eq (tgt := 1639) hx hb hd.2.2.2.2.2.2.2.2.1 hd.2.2.2.2.2.2.2.2.2 (fun _ => ?_) (fun z => absurd rfl z)
  exact W.widen (by omega) (by omega) (nx g' h1 h2 f H2 locs2 ls ld2 hci hmi hok hl)
abbrev D3 (pc ix im : Nat) (off : Int) : Prop := decode code pc = .ok (.aload_n 1, 1) ∧ dA (pc + 1) 1 ∧ dA (pc + 7) 2 ∧ dA (pc + 13) 3 ∧ decode code (pc + 19) = .ok (.invokevirtual ix, 3) ∧ decode code (pc + 22) = .ok (.aload_n 2, 1) ∧ dA (pc + 23) 1 ∧ dA (pc + 29) 2 ∧ dA (pc + 35) 3 ∧ decode code (pc + 41) = .ok (.invokevirtual im, 3) ∧ decode code (pc + 44) = .ok (.if_icmp .eq off, 3) ∧ ((pc : Int) + 44) + off = 1639
theorem case3 (C : LC p l s m meth c b L xs Dg cA trX trM qo) {hX hM : Hp} {f : Nat → Int64} (ld : LD s Dg cA trX trM qo hX hM f H locs) {i Dn B ix im : Nat} {off : Int} {Mx Mm : MT} (hl : lv_has ls 8 (LV b trX trM qo i)) (hi : i + 5 ≤ L) (hc : cells ≤ room_1.cells ∧ slots ≤ room_1.slots) (wx : WO ix Mx 3) (wm : WO im Mm 3) (hcx : Mx.1.cls = RX11) (hcm : Mm.1.cls = RX12) (hd : D3 pc ix im off) (hp : Pair Mx Mm [vI (xs (i + 1)), vI (xs (i + 2)), vI (xs (i + 3))] hX hM Dn B) (nx : NXT p l e s m below meth c b Dg cA trX trM qo i Dn B cells slots Q) : W p l e room_1 s m #[Value.ref b] below meth c H locs cells slots Q (F0 m pc ls []) := by
  have hx := C.1.1
  have hb := C.1.2.1
  obtain ⟨PX, hCX, hCM⟩ := hp
  refine lv_aload_n hx hb hd.1 rfl (lv_at hl 1 rfl) ?_
  refine l_arg C ld.2.2.2.1 hl 1 1 rfl (by omega) hd.2.1 ?_
  refine l_arg C ld.2.2.2.1 hl 2 2 rfl (by omega) hd.2.2.1 ?_
  refine l_arg C ld.2.2.2.1 hl 3 3 rfl (by omega) hd.2.2.2.1 ?_
  refine l_X C ld hl.1 (As := [vI (xs (i + 1)), vI (xs (i + 2)), vI (xs (i + 3))]) (rest := []) wx hcx rfl (stIn [xs (i + 1), xs (i + 2), xs (i + 3)]) hc (Nat.le_of_ble_eq_true rfl) hd.2.2.2.2.1 hCX (fun v h1 H1 locs1 hp1 ld1 => ?_)
  obtain ⟨r, g', rfl, hci, hok, hCM⟩ := hCM v h1 hp1
  refine lv_aload_n hx hb hd.2.2.2.2.2.1 rfl (lv_at hl 2 rfl) ?_
  refine l_arg C ld1.2.2.2.1 hl 1 1 rfl (by omega) hd.2.2.2.2.2.2.1 ?_
  refine l_arg C ld1.2.2.2.1 hl 2 2 rfl (by omega) hd.2.2.2.2.2.2.2.1 ?_
  refine l_arg C ld1.2.2.2.1 hl 3 3 rfl (by omega) hd.2.2.2.2.2.2.2.2.1 ?_
  refine l_M C ld1 hl.1 (As := [vI (xs (i + 1)), vI (xs (i + 2)), vI (xs (i + 3))]) (rest := [.int r]) wm hcm rfl (stIn [xs (i + 1), xs (i + 2), xs (i + 3)]) hc (Nat.le_of_ble_eq_true rfl) hd.2.2.2.2.2.2.2.2.2.1 hCM (fun v h2 H2 locs2 hp2 ld2 => ?_)
  obtain ⟨rfl, hmi⟩ := hp2
  refine lv_icmp_eq (tgt := 1639) hx hb hd.2.2.2.2.2.2.2.2.2.2.1 hd.2.2.2.2.2.2.2.2.2.2.2 (fun _ => ?_) (fun z => absurd rfl z)
  exact W.widen (by omega) (by omega) (nx g' h1 h2 f H2 locs2 ls ld2 hci hmi hok hl)
abbrev D4 (pc ix im : Nat) (off : Int) : Prop := decode code pc = .ok (.aload_n 1, 1) ∧ dA (pc + 1) 1 ∧ dA (pc + 7) 2 ∧ dA (pc + 13) 3 ∧ dA (pc + 19) 4 ∧ decode code (pc + 25) = .ok (.invokevirtual ix, 3) ∧ decode code (pc + 28) = .ok (.aload_n 2, 1) ∧ dA (pc + 29) 1 ∧ dA (pc + 35) 2 ∧ dA (pc + 41) 3 ∧ dA (pc + 47) 4 ∧ decode code (pc + 53) = .ok (.invokevirtual im, 3) ∧ decode code (pc + 56) = .ok (.if_icmp .eq off, 3) ∧ ((pc : Int) + 56) + off = 1639
theorem case4 (C : LC p l s m meth c b L xs Dg cA trX trM qo) {hX hM : Hp} {f : Nat → Int64} (ld : LD s Dg cA trX trM qo hX hM f H locs) {i Dn B ix im : Nat} {off : Int} {Mx Mm : MT} (hl : lv_has ls 8 (LV b trX trM qo i)) (hi : i + 5 ≤ L) (hc : cells ≤ room_1.cells ∧ slots ≤ room_1.slots) (wx : WO ix Mx 4) (wm : WO im Mm 4) (hcx : Mx.1.cls = RX11) (hcm : Mm.1.cls = RX12) (hd : D4 pc ix im off) (hp : Pair Mx Mm [vI (xs (i + 1)), vI (xs (i + 2)), vI (xs (i + 3)), vI (xs (i + 4))] hX hM Dn B) (nx : NXT p l e s m below meth c b Dg cA trX trM qo i Dn B cells slots Q) : W p l e room_1 s m #[Value.ref b] below meth c H locs cells slots Q (F0 m pc ls []) := by
  have hx := C.1.1
  have hb := C.1.2.1
  obtain ⟨PX, hCX, hCM⟩ := hp
  refine lv_aload_n hx hb hd.1 rfl (lv_at hl 1 rfl) ?_
  refine l_arg C ld.2.2.2.1 hl 1 1 rfl (by omega) hd.2.1 ?_
  refine l_arg C ld.2.2.2.1 hl 2 2 rfl (by omega) hd.2.2.1 ?_
  refine l_arg C ld.2.2.2.1 hl 3 3 rfl (by omega) hd.2.2.2.1 ?_
  refine l_arg C ld.2.2.2.1 hl 4 4 rfl (by omega) hd.2.2.2.2.1 ?_
  refine l_X C ld hl.1 (As := [vI (xs (i + 1)), vI (xs (i + 2)), vI (xs (i + 3)), vI (xs (i + 4))]) (rest := []) wx hcx rfl (stIn [xs (i + 1), xs (i + 2), xs (i + 3), xs (i + 4)]) hc (Nat.le_of_ble_eq_true rfl) hd.2.2.2.2.2.1 hCX (fun v h1 H1 locs1 hp1 ld1 => ?_)
  obtain ⟨r, g', rfl, hci, hok, hCM⟩ := hCM v h1 hp1
  refine lv_aload_n hx hb hd.2.2.2.2.2.2.1 rfl (lv_at hl 2 rfl) ?_
  refine l_arg C ld1.2.2.2.1 hl 1 1 rfl (by omega) hd.2.2.2.2.2.2.2.1 ?_
  refine l_arg C ld1.2.2.2.1 hl 2 2 rfl (by omega) hd.2.2.2.2.2.2.2.2.1 ?_
  refine l_arg C ld1.2.2.2.1 hl 3 3 rfl (by omega) hd.2.2.2.2.2.2.2.2.2.1 ?_
  refine l_arg C ld1.2.2.2.1 hl 4 4 rfl (by omega) hd.2.2.2.2.2.2.2.2.2.2.1 ?_
  refine l_M C ld1 hl.1 (As := [vI (xs (i + 1)), vI (xs (i + 2)), vI (xs (i + 3)), vI (xs (i + 4))]) (rest := [.int r]) wm hcm rfl (stIn [xs (i + 1), xs (i + 2), xs (i + 3), xs (i + 4)]) hc (Nat.le_of_ble_eq_true rfl) hd.2.2.2.2.2.2.2.2.2.2.2.1 hCM (fun v h2 H2 locs2 hp2 ld2 => ?_)
  obtain ⟨rfl, hmi⟩ := hp2
  refine lv_icmp_eq (tgt := 1639) hx hb hd.2.2.2.2.2.2.2.2.2.2.2.2.1 hd.2.2.2.2.2.2.2.2.2.2.2.2.2 (fun _ => ?_) (fun z => absurd rfl z)
  exact W.widen (by omega) (by omega) (nx g' h1 h2 f H2 locs2 ls ld2 hci hmi hok hl)
end LAW
