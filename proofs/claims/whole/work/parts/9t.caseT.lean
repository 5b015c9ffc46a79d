/-! the throwing cases -/
theorem ginW {y : MethodName} {cc : ByteArray} {n : Nat} {r : Option FieldType} {hh : List (Nat × Nat × Nat × Nat)} (h : Cond.codeWith y cc n r hh ∈ gt) : GoodIn gt (Cond.codeWith y cc n r hh :: gt) := fun w hw => by
  rcases List.mem_cons.mp hw with rfl | hw
  · exact ⟨h, gt_good h⟩
  · exact ⟨hw, gt_good hw⟩
theorem lg0 (x : Int64) : lg_cmp x x = 0 := by unfold lg_cmp; simp
def WS (ix : Nat) (y : MethodName) (cc : ByteArray) (mL n : Nat) (hh : List (Nat × Nat × Nat × Nat)) : Prop := Cond.methodLink RL ix y ∈ gt ∧ Cond.static y ∈ gt ∧ Cond.initialized y.cls ∈ gt ∧ Cond.codeWith y cc mL (some .int) hh ∈ gt ∧ (y.cls ≠ "java/lang/invoke/MethodHandle" ∧ y.cls ≠ "java/lang/invoke/VarHandle" ∧ (parseMethodDescriptor y.desc).map (fun d => d.parameters.length) = some n) ∧ mL ≤ 100
section LAWT
variable {p : Program} {l : Launch} {e : Env} {s : State} {m : MethodId} {below : List Frame} {meth : Method} {c : Code} {b L : Nat} {xs : Nat → Int32} {Dg : va_G} {cA : Nat → ClassId} {trX trM : Ad → Nat} {qo : Nat} {H : Heap} {locs : List Loc} {cells slots pc : Nat} {ls : Array Slot} {st : List Value} {Q : State → Prop}
theorem l_S (C : LC p l s m meth c b L xs Dg cA trX trM qo) {hX hM : Hp} {f : Nat → Int64} (ld : LD s Dg cA trX trM qo hX hM f H locs) (hls : ls.size = 8) {ix n mL : Nat} {y : MethodName} {cL : ByteArray} {hh : List (Nat × Nat × Nat × Nat)} {As rest : List Value} {Pp : Int32 → Hp → (Nat → Int64) → Prop} (w : WS ix y cL mL n hh) (hn : As.length = n) (hc : cells + 1 ≤ room_1.cells ∧ slots + 6 ≤ room_1.slots) (hcat : (rest.map fun v => v.category).sum ≤ 8) (hd : decode code pc = .ok (.invokestatic ix, 3))
    (hH : Met l y (Cond.codeWith y cL mL (some .int) hh :: gt) (rmh 900) (HPc Dg cA trX qo hX f As) (HQc Dg cA trX qo Pp) 1 6 (AwO trX qo))
    (kk : ∀ (r : Int32) (h' : Hp) (f' : Nat → Int64) (H1 : Heap) (locs1 : List Loc), Pp r h' f' → LD s Dg cA trX trM qo h' hM f' H1 locs1 → W p l e room_1 s m #[Value.ref b] below meth c H1 locs1 (cells + 1) (slots + 6) Q (F0 m (pc + 3) ls (.int r :: rest))) : W p l e room_1 s m #[Value.ref b] below meth c H locs cells slots Q (F0 m pc ls (As.reverse ++ rest)) := by
  obtain ⟨C0, hlt, hK, iX, iM, aX, aM, ao, hap, hq1, hq2, hL, hsx⟩ := C
  obtain ⟨hx, hb, hr0, hml, hown, hts0, hXs, hbl, hlocks, hgv⟩ := C0
  obtain ⟨l1, l2, l3, l4, l5, l6⟩ := ld
  obtain ⟨w1, w2, w3, w4, w5, w6⟩ := w
  have hts : ∀ w ∈ gt, w.before #[Value.ref b] s = true := fun w hw => hts0 w (gt_lw hw)
  have hAO : ∀ q, AwO trX qo q → AL s q := fun q z => z.elim (fun z => aX q z) (fun z => z ▸ ao)
  have hr := vx_runSW (Ts := gt) (hh := hh) (bytes := cL) (maxL := mL) (ret := some .int) (n := n) (As := As) (rest := rest) (e := e) (below := below) (meth := meth) (locs := locs) (cells := cells) (slots := slots) (R := room_1) (H := H) (g := F0 m pc ls (As.reverse ++ rest)) ⟨hx, hb, hml, hown, hts⟩ hH
    ⟨⟨rfl, rfl, by decide, by show 8 + (mL + 11) + (60 * 900 + 400) ≤ 84000; omega, pay_in hts (ginW w4), List.mem_cons_self⟩, hts _ w4, hts _ w3, ⟨w5.1, w5.2.1⟩, fun sig h => by have h2 := w5.2.2; rw [h] at h2; exact (Option.some.inj h2).symm, hts _ w1, hts _ w2⟩
    ⟨hpc_blind, fun U hU hW => ⟨rfl, by rw [hU]; exact l1, by rw [hU]; exact l3, va_K.moved hW.alike hK, (hsx H locs l4 U hU hW).1, (hsx H locs l4 U hU hW).2.2⟩⟩ rfl hn hls rfl (lv_room hcat) hd hc
  intro T hT X
  obtain ⟨v0, st₀, t, T', Ls, h0, X', hLs, e1, e2, ⟨⟨r, h', f', hpp, hv, hP1, hw1, hO1⟩, hz, hk⟩, step⟩ := hr T hT X
  cases hv
  rw [h0] at hz hk
  have hk' : ∀ q : Nat, q < H.size → ¬ AwO trX qo q → T'.heap[q]? = H[q]? := fun q z1 z2 => by rw [e1]; exact hk q z1 z2
  obtain ⟨t2, a1, b1⟩ := kk r h' f' T'.heap (locs ++ Ls) hpp ⟨by rw [e1]; exact hP1, kept_w l2 hk' (fun q z1 z2 => z2.elim (fun z => hap q z z1) (fun z => hq2 (z ▸ z1))), by rw [e1]; exact hO1,
    ⟨Nat.le_trans l4.1 (by rw [e1]; exact hz), fun q h1 h2 => by rw [hk' q (Nat.lt_of_lt_of_le h1 l4.1) (fun z => h2 (hAO q z))]; exact l4.2.1 q h1 h2, fun q hq => by
      rcases List.mem_append.mp hq with z | z
      · exact l4.2.2 q z
      · exact hAO _ (hLs q z)⟩, hw1, l6⟩ T' rfl X'
  exact ⟨t2, step t2 a1, b1⟩
/-- what a helper answers -/
def PpT (g : GS) (ok : Bool) (val : Int64) : Int32 → Hp → (Nat → Int64) → Prop := fun r h' f' => CI h' g ∧ ((ok = true ∧ r = 0 ∧ f' 0 = val) ∨ (ok = false ∧ r = 1))

abbrev DT2 (pc ix im it : Nat) (off : Int) : Prop := decode code pc = .ok (.aload_n 1, 1) ∧ dA (pc + 1) 1 ∧ dA (pc + 7) 2 ∧ decode code (pc + 13) = .ok (.aload_n 3, 1) ∧ decode code (pc + 14) = .ok (.invokestatic ix, 3) ∧ decode code (pc + 17) = .ok (.istore 5, 2) ∧ decode code (pc + 19) = .ok (.aload_n 2, 1) ∧ dA (pc + 20) 1 ∧ dA (pc + 26) 2 ∧ decode code (pc + 32) = .ok (.invokevirtual im, 3) ∧ decode code (pc + 35) = .ok (.istore 6, 2) ∧ decode code (pc + 37) = .ok (.aload_n 2, 1) ∧ decode code (pc + 38) = .ok (.invokevirtual it, 3) ∧ decode code (pc + 41) = .ok (.iload 5, 2) ∧ decode code (pc + 43) = .ok (.if_icmp .eq 5, 3) ∧ decode code (pc + 48) = .ok (.iload 5, 2) ∧ decode code (pc + 50) = .ok (.ifCond .ne 15, 3) ∧ decode code (pc + 53) = .ok (.aload_n 3, 1) ∧ decode code (pc + 54) = .ok (.iconst 0, 1) ∧ decode code (pc + 55) = .ok (.laload, 1) ∧ decode code (pc + 56) = .ok (.iload 6, 2) ∧ decode code (pc + 58) = .ok (.i2l, 1) ∧ decode code (pc + 59) = .ok (.lcmp, 1) ∧ decode code (pc + 60) = .ok (.ifCond .eq 5, 3) ∧ decode code (pc + 65) = .ok (.goto off, 3) ∧ ((pc : Int) + 65) + off = 1639
set_option maxHeartbeats 4000000 in
theorem caseT2 (C : LC p l s m meth c b L xs Dg cA trX trM qo) {hX hM : Hp} {f : Nat → Int64} (ld : LD s Dg cA trX trM qo hX hM f H locs) {i Dn B ix im it : Nat} {off : Int} {Mm : MT} {y : MethodName} {cL : ByteArray} {g : GS} {ok : Bool} {val : Int32} (hl : lv_has ls 8 (LV b trX trM qo i)) (hi : i + 5 ≤ L) (hc : cells + 1 ≤ room_1.cells ∧ slots + 6 ≤ room_1.slots) (ws : WS ix y cL 5 4 [(0, 10, 13, 13)]) (wm : WO im Mm 2) (wt : WO it mX12_thrown 0) (hcm : Mm.1.cls = RX12) (hd : DT2 pc ix im it off) (o : Ok Dn g)
    (hH : Met l y (Cond.codeWith y cL 5 (some .int) [(0, 10, 13, 13)] :: gt) (rmh 900) (HPc Dg cA trX qo hX f [.ref (trX (11, 0)), .int (xs (i + 1)), .int (xs (i + 2)), .ref qo]) (HQc Dg cA trX qo (PpT g ok val.toInt64)) 1 6 (AwO trX qo))
    (hCM : Ct alM Mm 1000 (vR 12 0 :: [vI (xs (i + 1)), vI (xs (i + 2))]) hM (fun v h' => MI B h' g ∧ ((ok = true ∧ v = vI val ∧ h'.1 12 0 10 = nI 0) ∨ (ok = false ∧ (∃ y, v = vI y) ∧ h'.1 12 0 10 = nI 1)))) (nx : NXT p l e s m below meth c b Dg cA trX trM qo i Dn B cells slots Q) : W p l e room_1 s m #[Value.ref b] below meth c H locs cells slots Q (F0 m pc ls []) := by
  have hx := C.1.1
  have hb := C.1.2.1
  have hK := C.2.2.1
  refine lv_aload_n hx hb hd.1 rfl (lv_at hl 1 rfl) ?_
  refine l_arg C ld.2.2.2.1 hl 1 1 rfl (by omega) hd.2.1 ?_
  refine l_arg C ld.2.2.2.1 hl 2 2 rfl (by omega) hd.2.2.1 ?_
  refine lv_aload_n hx hb hd.2.2.2.1 rfl (lv_at hl 3 rfl) ?_
  refine l_S C ld hl.1 (As := [.ref (trX (11, 0)), .int (xs (i + 1)), .int (xs (i + 2)), .ref qo]) (rest := []) ws rfl hc (Nat.le_of_ble_eq_true rfl) hd.2.2.2.2.1 hH (fun r h1 f1 H1 locs1 hp1 ld1 => ?_)
  obtain ⟨hci, hp1⟩ := hp1
  refine lv_istore (lv' := (5, .int r) :: LV b trX trM qo i) hx hb hd.2.2.2.2.2.1 hl (by decide) rfl (fun ls hl5 => ?_)
  have hl := lv_sub hl5 (l' := LV b trX trM qo i) [1, 2, 3, 4, 5] rfl
  refine lv_aload_n hx hb hd.2.2.2.2.2.2.1 rfl (lv_at hl 2 rfl) ?_
  refine l_arg C ld1.2.2.2.1 hl 1 1 rfl (by omega) hd.2.2.2.2.2.2.2.1 ?_
  refine l_arg C ld1.2.2.2.1 hl 2 2 rfl (by omega) hd.2.2.2.2.2.2.2.2.1 ?_
  refine l_M C ld1 hl.1 (As := [vI (xs (i + 1)), vI (xs (i + 2))]) (rest := []) wm hcm rfl (stIn [xs (i + 1), xs (i + 2)]) hc (Nat.le_of_ble_eq_true rfl) hd.2.2.2.2.2.2.2.2.2.1 hCM (fun v h2 H2 locs2 hp2 ld2 => ?_)
  obtain ⟨hmi, hp2⟩ := hp2
  obtain ⟨y6, rfl⟩ : ∃ y, v = vI y := by
    rcases hp2 with ⟨-, z, -⟩ | ⟨-, z, -⟩
    · exact ⟨_, z⟩
    · exact z
  refine lv_istore (lv' := (6, .int y6) :: (5, .int r) :: LV b trX trM qo i) hx hb hd.2.2.2.2.2.2.2.2.2.2.1 hl5 (by decide) rfl (fun ls hl6 => ?_)
  have hl := lv_sub hl6 (l' := LV b trX trM qo i) [2, 3, 4, 5, 6] rfl
  refine lv_aload_n hx hb hd.2.2.2.2.2.2.2.2.2.2.2.1 rfl (lv_at hl 2 rfl) ?_
  refine l_M C ld2 hl.1 (As := []) (rest := []) wt rfl rfl (stIn []) hc (Nat.le_of_ble_eq_true rfl) hd.2.2.2.2.2.2.2.2.2.2.2.2.1 m_thrown (fun v h3 H3 locs3 hp3 ld3 => ?_)
  obtain ⟨rfl, rfl⟩ := hp3
  refine lv_iload hx hb hd.2.2.2.2.2.2.2.2.2.2.2.2.2.1 (lv_at hl6 1 rfl) ?_
  have fin : W p l e room_1 s m #[Value.ref b] below meth c H3 locs3 (cells + 1) (slots + 6) Q (F0 m (pc + 65) ls []) := lv_goto (tgt := 1639) hx hb hd.2.2.2.2.2.2.2.2.2.2.2.2.2.2.2.2.2.2.2.2.2.2.2.2.1 hd.2.2.2.2.2.2.2.2.2.2.2.2.2.2.2.2.2.2.2.2.2.2.2.2.2 (nx g h1 h3 f1 H3 locs3 ls ld3 hci (hmi.up (by omega)) (o.mo (by omega)) hl)
  rcases hp1 with ⟨ho, rfl, hf⟩ | ⟨ho, rfl⟩
  · obtain ⟨ez, et⟩ : vI y6 = vI val ∧ h3.1 12 0 10 = nI 0 := by
      rcases hp2 with ⟨-, z1, z2⟩ | ⟨z, -, -⟩
      · exact ⟨z1, z2⟩
      · rw [ho] at z; cases z
    cases ez
    rw [et]
    refine lv_icmp_eq (tgt := pc + 48) hx hb hd.2.2.2.2.2.2.2.2.2.2.2.2.2.2.1 (by omega) (fun _ => ?_) (fun z => absurd rfl z)
    refine lv_iload hx hb hd.2.2.2.2.2.2.2.2.2.2.2.2.2.2.2.1 (lv_at hl6 1 rfl) ?_
    refine lv_if_ne (tgt := pc + 65) hx hb hd.2.2.2.2.2.2.2.2.2.2.2.2.2.2.2.2.1 (by omega) (fun z => absurd rfl z) (fun _ => ?_)
    refine lv_aload_n hx hb hd.2.2.2.2.2.2.2.2.2.2.2.2.2.2.2.2.2.1 rfl (lv_at hl 3 rfl) ?_
    refine lv_iconst (v := 0) hx hb hd.2.2.2.2.2.2.2.2.2.2.2.2.2.2.2.2.2.2.1 (by decide) ?_
    refine va_lald hx hb hK ld3.2.2.1 0 1 rfl rfl in1 hd.2.2.2.2.2.2.2.2.2.2.2.2.2.2.2.2.2.2.2.1 ?_
    rw [show f1 (0 : Int32).toNatClampNeg = val.toInt64 from hf]
    refine lv_iload hx hb hd.2.2.2.2.2.2.2.2.2.2.2.2.2.2.2.2.2.2.2.2.1 (lv_at hl6 0 rfl) ?_
    refine lv_i2l hx hb hd.2.2.2.2.2.2.2.2.2.2.2.2.2.2.2.2.2.2.2.2.2.1 rfl ?_
    refine W.lcmp hx hb hd.2.2.2.2.2.2.2.2.2.2.2.2.2.2.2.2.2.2.2.2.2.2.1 ?_
    rw [lg0]
    exact lv_if_eq (tgt := pc + 65) hx hb hd.2.2.2.2.2.2.2.2.2.2.2.2.2.2.2.2.2.2.2.2.2.2.2.1 (by omega) (fun _ => fin) (fun z => absurd rfl z)
  · have et : h3.1 12 0 10 = nI 1 := by
      rcases hp2 with ⟨z, -, -⟩ | ⟨-, -, z2⟩
      · rw [ho] at z; cases z
      · exact z2
    rw [et]
    refine lv_icmp_eq (tgt := pc + 48) hx hb hd.2.2.2.2.2.2.2.2.2.2.2.2.2.2.1 (by omega) (fun _ => ?_) (fun z => absurd rfl z)
    refine lv_iload hx hb hd.2.2.2.2.2.2.2.2.2.2.2.2.2.2.2.1 (lv_at hl6 1 rfl) ?_
    exact lv_if_ne (tgt := pc + 65) hx hb hd.2.2.2.2.2.2.2.2.2.2.2.2.2.2.2.2.1 (by omega) (fun _ => fin) (fun z => absurd z (by decide))
abbrev DT1 (pc ix im it : Nat) (off : Int) : Prop := decode code pc = .ok (.aload_n 1, 1) ∧ dA (pc + 1) 1 ∧ decode code (pc + 7) = .ok (.aload_n 3, 1) ∧ decode code (pc + 8) = .ok (.invokestatic ix, 3) ∧ decode code (pc + 11) = .ok (.istore 5, 2) ∧ decode code (pc + 13) = .ok (.aload_n 2, 1) ∧ dA (pc + 14) 1 ∧ decode code (pc + 20) = .ok (.invokevirtual im, 3) ∧ decode code (pc + 23) = .ok (.lstore 6, 2) ∧ decode code (pc + 25) = .ok (.aload_n 2, 1) ∧ decode code (pc + 26) = .ok (.invokevirtual it, 3) ∧ decode code (pc + 29) = .ok (.iload 5, 2) ∧ decode code (pc + 31) = .ok (.if_icmp .eq 5, 3) ∧ decode code (pc + 36) = .ok (.iload 5, 2) ∧ decode code (pc + 38) = .ok (.ifCond .ne 14, 3) ∧ decode code (pc + 41) = .ok (.aload_n 3, 1) ∧ decode code (pc + 42) = .ok (.iconst 0, 1) ∧ decode code (pc + 43) = .ok (.laload, 1) ∧ decode code (pc + 44) = .ok (.lload 6, 2) ∧ decode code (pc + 46) = .ok (.lcmp, 1) ∧ decode code (pc + 47) = .ok (.ifCond .eq 5, 3) ∧ decode code (pc + 52) = .ok (.goto off, 3) ∧ ((pc : Int) + 52) + off = 1639
set_option maxHeartbeats 4000000 in
theorem caseT1 (C : LC p l s m meth c b L xs Dg cA trX trM qo) {hX hM : Hp} {f : Nat → Int64} (ld : LD s Dg cA trX trM qo hX hM f H locs) {i Dn B ix im it : Nat} {off : Int} {Mm : MT} {y : MethodName} {cL : ByteArray} {g : GS} {ok : Bool} {val : Int64} (hl : lv_has ls 8 (LV b trX trM qo i)) (hi : i + 5 ≤ L) (hc : cells + 1 ≤ room_1.cells ∧ slots + 6 ≤ room_1.slots) (ws : WS ix y cL 4 3 [(0, 8, 11, 13)]) (wm : WO im Mm 1) (wt : WO it mX12_thrown 0) (hcm : Mm.1.cls = RX12) (hd : DT1 pc ix im it off) (o : Ok Dn g)
    (hH : Met l y (Cond.codeWith y cL 4 (some .int) [(0, 8, 11, 13)] :: gt) (rmh 900) (HPc Dg cA trX qo hX f [.ref (trX (11, 0)), .int (xs (i + 1)), .ref qo]) (HQc Dg cA trX qo (PpT g ok val)) 1 6 (AwO trX qo))
    (hCM : Ct alM Mm 1000 (vR 12 0 :: [vI (xs (i + 1))]) hM (fun v h' => MI B h' g ∧ ((ok = true ∧ v = vL val ∧ h'.1 12 0 10 = nI 0) ∨ (ok = false ∧ (∃ y, v = vL y) ∧ h'.1 12 0 10 = nI 1)))) (nx : NXT p l e s m below meth c b Dg cA trX trM qo i Dn B cells slots Q) : W p l e room_1 s m #[Value.ref b] below meth c H locs cells slots Q (F0 m pc ls []) := by
  have hx := C.1.1
  have hb := C.1.2.1
  have hK := C.2.2.1
  refine lv_aload_n hx hb hd.1 rfl (lv_at hl 1 rfl) ?_
  refine l_arg C ld.2.2.2.1 hl 1 1 rfl (by omega) hd.2.1 ?_
  refine lv_aload_n hx hb hd.2.2.1 rfl (lv_at hl 3 rfl) ?_
  refine l_S C ld hl.1 (As := [.ref (trX (11, 0)), .int (xs (i + 1)), .ref qo]) (rest := []) ws rfl hc (Nat.le_of_ble_eq_true rfl) hd.2.2.2.1 hH (fun r h1 f1 H1 locs1 hp1 ld1 => ?_)
  obtain ⟨hci, hp1⟩ := hp1
  refine lv_istore (lv' := (5, .int r) :: LV b trX trM qo i) hx hb hd.2.2.2.2.1 hl (by decide) rfl (fun ls hl5 => ?_)
  have hl := lv_sub hl5 (l' := LV b trX trM qo i) [1, 2, 3, 4, 5] rfl
  refine lv_aload_n hx hb hd.2.2.2.2.2.1 rfl (lv_at hl 2 rfl) ?_
  refine l_arg C ld1.2.2.2.1 hl 1 1 rfl (by omega) hd.2.2.2.2.2.2.1 ?_
  refine l_M C ld1 hl.1 (As := [vI (xs (i + 1))]) (rest := []) wm hcm rfl (stIn [xs (i + 1)]) hc (Nat.le_of_ble_eq_true rfl) hd.2.2.2.2.2.2.2.1 hCM (fun v h2 H2 locs2 hp2 ld2 => ?_)
  obtain ⟨hmi, hp2⟩ := hp2
  obtain ⟨y6, rfl⟩ : ∃ y, v = vL y := by
    rcases hp2 with ⟨-, z, -⟩ | ⟨-, z, -⟩
    · exact ⟨_, z⟩
    · exact z
  refine lv_lstore (lv' := (6, .long y6) :: (5, .int r) :: LV b trX trM qo i) hx hb hd.2.2.2.2.2.2.2.2.1 hl5 (by decide) rfl (fun ls hl6 => ?_)
  have hl := lv_sub hl6 (l' := LV b trX trM qo i) [2, 3, 4, 5, 6] rfl
  refine lv_aload_n hx hb hd.2.2.2.2.2.2.2.2.2.1 rfl (lv_at hl 2 rfl) ?_
  refine l_M C ld2 hl.1 (As := []) (rest := []) wt rfl rfl (stIn []) hc (Nat.le_of_ble_eq_true rfl) hd.2.2.2.2.2.2.2.2.2.2.1 m_thrown (fun v h3 H3 locs3 hp3 ld3 => ?_)
  obtain ⟨rfl, rfl⟩ := hp3
  refine lv_iload hx hb hd.2.2.2.2.2.2.2.2.2.2.2.1 (lv_at hl6 1 rfl) ?_
  have fin : W p l e room_1 s m #[Value.ref b] below meth c H3 locs3 (cells + 1) (slots + 6) Q (F0 m (pc + 52) ls []) := lv_goto (tgt := 1639) hx hb hd.2.2.2.2.2.2.2.2.2.2.2.2.2.2.2.2.2.2.2.2.2.1 hd.2.2.2.2.2.2.2.2.2.2.2.2.2.2.2.2.2.2.2.2.2.2 (nx g h1 h3 f1 H3 locs3 ls ld3 hci (hmi.up (by omega)) (o.mo (by omega)) hl)
  rcases hp1 with ⟨ho, rfl, hf⟩ | ⟨ho, rfl⟩
  · obtain ⟨ez, et⟩ : vL y6 = vL val ∧ h3.1 12 0 10 = nI 0 := by
      rcases hp2 with ⟨-, z1, z2⟩ | ⟨z, -, -⟩
      · exact ⟨z1, z2⟩
      · rw [ho] at z; cases z
    cases ez
    rw [et]
    refine lv_icmp_eq (tgt := pc + 36) hx hb hd.2.2.2.2.2.2.2.2.2.2.2.2.1 (by omega) (fun _ => ?_) (fun z => absurd rfl z)
    refine lv_iload hx hb hd.2.2.2.2.2.2.2.2.2.2.2.2.2.1 (lv_at hl6 1 rfl) ?_
    refine lv_if_ne (tgt := pc + 52) hx hb hd.2.2.2.2.2.2.2.2.2.2.2.2.2.2.1 (by omega) (fun z => absurd rfl z) (fun _ => ?_)
    refine lv_aload_n hx hb hd.2.2.2.2.2.2.2.2.2.2.2.2.2.2.2.1 rfl (lv_at hl 3 rfl) ?_
    refine lv_iconst (v := 0) hx hb hd.2.2.2.2.2.2.2.2.2.2.2.2.2.2.2.2.1 (by decide) ?_
    refine va_lald hx hb hK ld3.2.2.1 0 1 rfl rfl in1 hd.2.2.2.2.2.2.2.2.2.2.2.2.2.2.2.2.2.1 ?_
    rw [show f1 (0 : Int32).toNatClampNeg = val from hf]
    refine lv_lload hx hb hd.2.2.2.2.2.2.2.2.2.2.2.2.2.2.2.2.2.2.1 (lv_at hl6 0 rfl) ?_
    refine W.lcmp hx hb hd.2.2.2.2.2.2.2.2.2.2.2.2.2.2.2.2.2.2.2.1 ?_
    rw [lg0]
    exact lv_if_eq (tgt := pc + 52) hx hb hd.2.2.2.2.2.2.2.2.2.2.2.2.2.2.2.2.2.2.2.2.1 (by omega) (fun _ => fin) (fun z => absurd rfl z)
  · have et : h3.1 12 0 10 = nI 1 := by
      rcases hp2 with ⟨z, -, -⟩ | ⟨-, -, z2⟩
      · rw [ho] at z; cases z
      · exact z2
    rw [et]
    refine lv_icmp_eq (tgt := pc + 36) hx hb hd.2.2.2.2.2.2.2.2.2.2.2.2.1 (by omega) (fun _ => ?_) (fun z => absurd rfl z)
    refine lv_iload hx hb hd.2.2.2.2.2.2.2.2.2.2.2.2.2.1 (lv_at hl6 1 rfl) ?_
    exact lv_if_ne (tgt := pc + 52) hx hb hd.2.2.2.2.2.2.2.2.2.2.2.2.2.2.1 (by omega) (fun _ => fin) (fun z => absurd z (by decide))
end LAWT
theorem gw {w : Cond} (i : Nat) (h : lw_tbl[i]? = some w) (hg : goodWord w = true) : w ∈ gt := List.mem_filter.mpr ⟨List.mem_of_getElem? h, hg⟩
theorem wS_fighter : WS 52 yL_fighter cL_fighter 5 4 [(0, 10, 13, 13)] := by unfold WS; decide +kernel
theorem wS_seat : WS 61 yL_seat cL_seat 5 4 [(0, 10, 13, 13)] := by unfold WS; decide +kernel
theorem wS_strength : WS 68 yL_strength cL_strength 5 4 [(0, 10, 13, 13)] := by unfold WS; decide +kernel
theorem wS_row : WS 225 yL_row cL_row 4 3 [(0, 8, 11, 13)] := by unfold WS; decide +kernel
