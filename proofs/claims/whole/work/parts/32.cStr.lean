/-! String.length and String.charAt of the three constants -/
def RJ1 : String := "java/lang/StringLatin1"
def RJ3 : String := "jdk/internal/util/Preconditions"
abbrev cJ0_coder : ByteArray := prog_22_method_152_code
def yJ0_coder : MethodName := ⟨RJ0, "coder", "()B"⟩
abbrev cJ0_isLatin1 : ByteArray := prog_22_method_154_code
def yJ0_isLatin1 : MethodName := ⟨RJ0, "isLatin1", "()Z"⟩
abbrev cJ0_checkIndex : ByteArray := prog_22_method_155_code
def yJ0_checkIndex : MethodName := ⟨RJ0, "checkIndex", "(II)V"⟩
abbrev cJ1_charAt : ByteArray := prog_23_method_2_code
def yJ1_charAt : MethodName := ⟨RJ1, "charAt", "([BI)C"⟩
abbrev cJ3_checkIndex : ByteArray := prog_30_method_11_code
def yJ3_checkIndex : MethodName := ⟨RJ3, "checkIndex", "(IILjava/util/function/BiFunction;)I"⟩
def mJ0_coder : MT := (yJ0_coder, cJ0_coder, 1, some .byte)
def mJ0_isLatin1 : MT := (yJ0_isLatin1, cJ0_isLatin1, 1, some .boolean)
def mJ0_checkIndex : MT := (yJ0_checkIndex, cJ0_checkIndex, 2, none)
def mJ1_charAt : MT := (yJ1_charAt, cJ1_charAt, 2, some .char)
def mJ3_checkIndex : MT := (yJ3_checkIndex, cJ3_checkIndex, 3, some .int)
section STR
variable {al : List Ad} {M : MT} {k : Nat} {P : AV → Hp → Prop} {pc : Nat} {lv : List (Option AV)} {st : List AV} {h : Hp}
theorem wp_nreturn {x : Int32} {ty : FieldType} (hd : decode M.2.1 pc = .ok (.ireturn, 1)) (hr : M.2.2.2 = some ty) (hx : narrow ty (.int x) = .int x) (hp : P (vI x) h) : WP al M k P pc lv [vI x] h := by
  intro p l e s m args below meth c D cA tr B H locs ls hP hS hw hl hs
  exact W.zret B.1 B.2.1 (B.2.2.2.1.trans hr) hx (fun t ht _ => ⟨⟨vI x, h, hp, by rw [hr]; rfl, by rw [ht]; exact hP, hw, wfI⟩, hS.F ht⟩) (fun q hq => hS.2.2 q hq) hd B.2.2.2.2.1
theorem wp_i2c {x : Int32} (hd : decode M.2.1 pc = .ok (.i2c, 1)) (kk : WP al M k P (pc + 1) lv (vI ((x.toUInt32 % 65536).toInt32) :: st) h) : WP al M k P pc lv (vI x :: st) h := by
  intro p l e s m args below meth c D cA tr B H locs ls hP hS hw hl hs
  exact lv_i2c B.1 B.2.1 hd rfl (kk p l e s m args below meth c D cA tr B H locs ls hP hS hw hl (sc wfI (st1 hs)))
theorem wp_compact {idx : Nat} (hd : decode M.2.1 pc = .ok (.getstatic idx, 3)) (hg : Cond.fieldLink M.1.cls idx "java/lang/String" "COMPACT_STRINGS" "Z" ∈ gt) (kk : WP al M k P (pc + 3) lv (vI 1 :: st) h) : WP al M k P pc lv st h := by
  intro p l e s m args below meth c D cA tr B H locs ls hP hS hw hl hs
  exact va_gets B.1 B.2.1 B.2.2.2.2.2.2.2.2.1.2.2.2.2.1 hS B.2.2.2.2.2.1 (B.2.2.2.2.2.2.1 _ hg) (fun x hx => hx) hd (kk p l e s m args below meth c D cA tr B H locs ls hP hS hw hl (sc wfI hs))
theorem str_i {i : Nat} (hok : Okal al) {kd : Nat} (hk : 90 ≤ kd) (h : wfV al (vR kd i)) : i < 3 := by
  rcases h _ rfl with z | z
  · exact absurd (hok.2.1 _ z).1 (by show ¬ kd < 90; omega)
  · exact z.2
theorem wp_scoder {idx i : Nat} (hok : Okal al) (hd : decode M.2.1 pc = .ok (.getfield idx, 3)) (hg : Cond.fieldLink M.1.cls idx "java/lang/String" "coder" "B" ∈ gt) (kk : WP al M k P (pc + 3) lv (vI 0 :: st) h) : WP al M k P pc lv (vR 90 i :: st) h := by
  intro p l e s m args below meth c D cA tr B H locs ls hP hS hw hl hs
  have hi := str_i hok (by decide) (st0 hs)
  exact vk_getf B.1 B.2.1 (B.2.2.2.2.2.2.2.2.1.1.1 i hi).2.1 hS B.2.2.2.2.2.1 (B.2.2.2.2.2.2.1 _ hg) (fun x hx => hx) hd (kk p l e s m args below meth c D cA tr B H locs ls hP hS hw hl (sc wfI (st1 hs)))
theorem wp_svalue {idx i : Nat} (hok : Okal al) (hd : decode M.2.1 pc = .ok (.getfield idx, 3)) (hg : Cond.fieldLink M.1.cls idx "java/lang/String" "value" "[B" ∈ gt) (kk : WP al M k P (pc + 3) lv (vR 91 i :: st) h) : WP al M k P pc lv (vR 90 i :: st) h := by
  intro p l e s m args below meth c D cA tr B H locs ls hP hS hw hl hs
  have hi := str_i hok (by decide) (st0 hs)
  exact vk_getf B.1 B.2.1 (B.2.2.2.2.2.2.2.2.1.1.1 i hi).2.2.1 hS B.2.2.2.2.2.1 (B.2.2.2.2.2.2.1 _ hg) (fun x hx => hx) hd (kk p l e s m args below meth c D cA tr B H locs ls hP hS hw hl (sc (fun a ha => by cases ha; exact Or.inr ⟨by show 90 ≤ 91; omega, hi⟩) (st1 hs)))
theorem wp_slen {i : Nat} (hok : Okal al) (hd : decode M.2.1 pc = .ok (.arraylength, 1)) (kk : WP al M k P (pc + 1) lv (vI (nI (lenS.getD i 0)) :: st) h) : WP al M k P pc lv (vR 91 i :: st) h := by
  intro p l e s m args below meth c D cA tr B H locs ls hP hS hw hl hs
  have hi := str_i hok (by decide) (st0 hs)
  exact va_tlen B.1 B.2.1 (B.2.2.2.2.2.2.2.2.1.1.1 i hi).2.2.2 hS rfl hd (kk p l e s m args below meth c D cA tr B H locs ls hP hS hw hl (sc wfI (st1 hs)))
theorem wp_sbyte {i : Nat} {j : Int32} (hok : Okal al) (hd : decode M.2.1 pc = .ok (.baload, 1)) (hj : vp_in j (lenS.getD i 0)) (kk : WP al M k P (pc + 1) lv (vI ((bytS.getD i []).getD j.toNatClampNeg 0) :: st) h) : WP al M k P pc lv (vI j :: vR 91 i :: st) h := by
  intro p l e s m args below meth c D cA tr B H locs ls hP hS hw hl hs
  have hi := str_i hok (by decide) (st0 (st1 hs))
  exact va_tb B.1 B.2.1 (B.2.2.2.2.2.2.2.2.1.1.1 i hi).2.2.2 hS hj rfl hd (kk p l e s m args below meth c D cA tr B H locs ls hP hS hw hl (sc wfI (st2 hs)))
end STR
section STRC
variable {al : List Ad} {k i : Nat} {h : Hp}
theorem c_coder (hok : Okal al) : Ct al mJ0_coder k [vR 90 i] h (Rd h 0) := by
  refine ct_wp (by decide +kernel) (Nat.le_of_ble_eq_true rfl) ?_
  refine wp_compact (idx := 38) (by decide +kernel) (inG_ok (i := 389) (by decide +kernel)) ?_
  refine wp_if_eq (off := 10) (t := 13) (by decide +kernel) rfl (fun z => absurd z (by decide)) (fun _ => ?_)
  refine wp_aload_n (i := 0) (by decide +kernel) rfl ?_
  refine wp_scoder (idx := 15) hok (by decide +kernel) (inG_ok (i := 1879) (by decide +kernel)) ?_
  refine wp_goto (off := 4) (t := 14) (by decide +kernel) rfl ?_
  exact wp_nreturn (ty := .byte) (by decide +kernel) rfl rfl ⟨rfl, rfl⟩
theorem c_isLatin1 (hok : Okal al) : Ct al mJ0_isLatin1 k [vR 90 i] h (Rd h 1) := by
  refine ct_wp (by decide +kernel) (Nat.le_of_ble_eq_true rfl) ?_
  refine wp_compact (idx := 38) (by decide +kernel) (inG_ok (i := 389) (by decide +kernel)) ?_
  refine wp_if_eq (off := 14) (t := 17) (by decide +kernel) rfl (fun z => absurd z (by decide)) (fun _ => ?_)
  refine wp_aload_n (i := 0) (by decide +kernel) rfl ?_
  refine wp_scoder (idx := 15) hok (by decide +kernel) (inG_ok (i := 1879) (by decide +kernel)) ?_
  refine wp_if_ne (off := 7) (t := 17) (by decide +kernel) rfl (fun z => absurd rfl z) (fun _ => ?_)
  refine wp_iconst (n := 1) (by decide +kernel) ?_
  refine wp_goto (off := 4) (t := 18) (by decide +kernel) rfl ?_
  exact wp_zreturn (by decide +kernel) rfl (Or.inr rfl) ⟨rfl, rfl⟩
theorem c_length (hok : Okal al) : Ct al mJ0_length_8abf5 (k + 1) [vR 90 i] h (Rd h (nI (lenS.getD i 0))) := by
  refine ct_wp (by decide +kernel) (Nat.le_of_ble_eq_true rfl) ?_
  refine wp_aload_n (i := 0) (by decide +kernel) rfl ?_
  refine wp_svalue (idx := 9) hok (by decide +kernel) (inG_ok (i := 1878) (by decide +kernel)) ?_
  refine wp_slen hok (by decide +kernel) ?_
  refine wp_aload_n (i := 0) (by decide +kernel) rfl ?_
  refine wp_callStr (idx := 335) (n := 0) (Mc := mJ0_coder) (As := []) (rest := [vI (nI (lenS.getD i 0))]) hok (by decide +kernel) rfl rfl (inG_ok (i := 385) (by decide +kernel)) (inG_ok (i := 386) (by decide +kernel)) (inG_ok (i := 387) (by decide +kernel)) (inG_ok (i := 96) (by decide +kernel)) (inG_ok (i := 388) (by decide +kernel)) (by decide +kernel) (by decide) (Nat.le_of_ble_eq_true rfl) (c_coder hok) ?_
  rintro v h' ⟨rfl, rfl⟩
  refine wp_ishr (by decide +kernel) ?_
  have e : nI (lenS.getD i 0) >>> ((0 : Int32) &&& 31) = nI (lenS.getD i 0) := by
    match i with
    | 0 => decide
    | 1 => decide
    | 2 => decide
    | n + 3 => exact (by decide : nI 0 >>> ((0 : Int32) &&& 31) = nI 0)
  rw [e]
  exact wp_ireturn (by decide +kernel) rfl ⟨rfl, rfl⟩
/-- the JDK's check of an index, whatever it would tell a formatter (v: null or a reference) -/
theorem c_pcheckV {l : Launch} {D : va_G} {cA : Nat → ClassId} {tr : Ad → Nat} {v : Value} (hc : v.category = 1) {j n : Nat} (hj : j < n) (hn : n < 2 ^ 31) (hw : hwf al h) : Met l mJ3_checkIndex.1 (wsM mJ3_checkIndex) (rmk k) (va_Pc [.int (nI j), .int (nI n), v] (fun U => va_P D vwCl (wof cA tr h al) U.heap ∧ va_K D vwCl (tysL cA) U ∧ SX al tr U)) (QCx al D cA tr mJ3_checkIndex.2.2.2 (Rd h (nI j))) 0 0 (Aw al tr) := by
  refine Met.ofW (cc := cJ3_checkIndex) (maxL := 3) (ret := some .int) (by decide +kernel) rfl ?_
  intro p e s m args below meth c s₁ B hml hv
  obtain ⟨rfl, hP, hK, hX⟩ := hv
  have hx := B.exec
  have hb := B.bytes
  have hr := B.returns
  have hlocks := B.notSynchronized
  have hlen : (lg_sl [Value.int (nI j), Value.int (nI n), v]).length = 3 := by
    cases v <;> first | rfl | (simp [Value.category] at hc)
  have hl := lv_entry ([.int (nI j), .int (nI n), v]) (n := 3) (Nat.le_of_eq hlen)
  rw [lg_entry_eq]
  generalize (lg_sl ([.int (nI j), .int (nI n), v]) ++ List.replicate (3 - (lg_sl ([.int (nI j), .int (nI n), v])).length) Slot.unset).toArray = ls at hl ⊢
  have h0 := lv_at hl 0 rfl
  have h1 := lv_at hl 1 rfl
  have hS : va_S (Aw al tr) s.heap s.heap [] := va_S.rf
  refine lv_iload_n hx hb (show decode cJ3_checkIndex 0 = .ok (.iload_n 0, 1) by decide +kernel) rfl h0 ?_
  refine lv_if_lt (tgt := 9) hx hb (show decode cJ3_checkIndex 1 = .ok (.ifCond .lt 8, 3) by decide +kernel) (by decide) (fun z => absurd z (i_ltn (nI_le (Nat.zero_le j) (by omega)))) (fun _ => ?_)
  refine lv_iload_n hx hb (show decode cJ3_checkIndex 4 = .ok (.iload_n 0, 1) by decide +kernel) rfl h0 ?_
  refine lv_iload_n hx hb (show decode cJ3_checkIndex 5 = .ok (.iload_n 1, 1) by decide +kernel) rfl h1 ?_
  refine lv_icmp_lt (tgt := 16) hx hb (show decode cJ3_checkIndex 6 = .ok (.if_icmp .lt 10, 3) by decide +kernel) (by decide) (fun _ => ?_) (fun z => absurd (nI_lt hj hn) z)
  refine lv_iload_n hx hb (show decode cJ3_checkIndex 16 = .ok (.iload_n 0, 1) by decide +kernel) rfl h0 ?_
  exact W.iret (v := nI j) hx hb hr (fun t ht hW => ⟨⟨vI (nI j), h, ⟨rfl, rfl⟩, rfl, by rw [ht]; exact hP, hw, wfI⟩, hS.F ht⟩) hS.2.2 (show decode cJ3_checkIndex 17 = .ok (.ireturn, 1) by decide +kernel)
theorem c_scheck {j n : Nat} (hj : j < n) (hn : n < 2 ^ 31) : Ct al mJ0_checkIndex (k + 1) [vI (nI j), vI (nI n)] h (Rv h) := by
  refine ct_wp (by decide +kernel) (Nat.le_of_ble_eq_true rfl) ?_
  refine wp_iload_n (i := 0) (by decide +kernel) rfl ?_
  refine wp_iload_n (i := 1) (by decide +kernel) rfl ?_
  have fin : ∀ lv, WP al mJ0_checkIndex (k + 1) (Rv h) 8 lv [vI (nI j)] h := fun lv => by
    refine wp_pop (by decide +kernel) rfl ?_
    exact wp_return (by decide +kernel) rfl rfl
  intro p l e s m args below meth c D cA tr B H locs ls hP hS hw hl hs
  have hts := B.2.2.2.2.2.2.1
  have go : ∀ v : Value, v.category = 1 → va_Z "jdk/internal/util/Preconditions" "SIOOBE_FORMATTER" "Ljava/util/function/BiFunction;" v (Aw al tr) s s.heap → W p l e (rmk (k + 1)) s m args below meth c H locs 0 0 (MQ below (QCx al D cA tr mJ0_checkIndex.2.2.2 (Rv h)) args s 0 0 (Aw al tr)) (F0 m 2 ls [.int (nI n), .int (nI j)]) := fun v hc hz => by
    refine va_gets B.1 B.2.1 hz hS B.2.2.2.2.2.1 (hts _ (inG_ok (i := 405) (w := .fieldLink RJ0 1053 "jdk/internal/util/Preconditions" "SIOOBE_FORMATTER" "Ljava/util/function/BiFunction;") (by decide +kernel))) (fun x hx => hx) (show decode cJ0_checkIndex 2 = .ok (.getstatic 1053, 3) by decide +kernel) ?_
    refine run_go (rest := []) (va_runS (Ts := gt) (As := [.int (nI j), .int (nI n), v]) (rest := []) ⟨B.1, B.2.1, B.2.2.1, B.2.2.2.2.2.1, hts⟩ (c_pcheckV (k := k) hc hj hn hw)
      ⟨callB_of 3 hts (gin mJ3_checkIndex (inG_ok (i := 409) (by decide +kernel))) rfl rfl rfl (hts _ (inG_ok (i := 98) (by decide +kernel))) (hts _ (inG_ok (i := 407) (by decide +kernel))) (by decide +kernel) ⟨Nat.le_refl _, by show 8 + (3 + 11) + 60 * k ≤ 60 * (k + 1); omega⟩, hts _ (inG_ok (i := 408) (by decide +kernel))⟩
      ⟨fun a U g mk q => by obtain ⟨q0, qP, qK, qS⟩ := q; exact ⟨q0, qP, va_K.moved (u := U) (U := U.calling g mk a) (Vm.Alike.refl U.vm) qK, qS.call⟩, fun U hU hW => ⟨rfl, by rw [hU]; exact hP, va_K.moved hW.alike B.2.2.2.2.2.2.2.1, B.2.2.2.2.2.2.2.2.1.go hS hU hW⟩⟩ rfl rfl hl.1 rfl (lv_room (Nat.le_of_ble_eq_true rfl)) (show decode cJ0_checkIndex 5 = .ok (.invokestatic 1059, 3) by decide +kernel) ⟨Nat.le_refl _, Nat.le_refl _⟩) hS (fun v' h' H1 locs1 hp hP1 hw1 hv1 hS1 => ?_)
    obtain ⟨rfl, rfl⟩ := hp
    exact fin _ p l e s m args below meth c D cA tr B H1 locs1 ls hP1 hS1 hw1 hl (sc wfI (fun v hv => by cases hv))
  rcases B.2.2.2.2.2.2.2.2.1.2.2.2.2.2 with z | ⟨t, z⟩
  · exact go _ rfl z
  · exact go _ rfl z
def chS (i j : Nat) : Int32 := (bytS.getD i []).getD j 0
theorem chS_ok : ∀ i, i < 3 → ∀ j, j < lenS.getD i 0 → ((chS i j &&& (Int16.ofInt 255).toInt32).toUInt32 % 65536).toInt32 = chS i j ∧ narrow .char (.int (chS i j)) = .int (chS i j) ∧ lenS.getD i 0 < 2 ^ 31 := by decide +kernel
theorem c_lcharAt {j : Nat} (hok : Okal al) (hi : i < 3) (hj : j < lenS.getD i 0) : Ct al mJ1_charAt (k + 2) [vR 91 i, vI (nI j)] h (Rd h (chS i j)) := by
  obtain ⟨e1, e2, e3⟩ := chS_ok i hi j hj
  refine ct_wp (by decide +kernel) (Nat.le_of_ble_eq_true rfl) ?_
  refine wp_iload_n (i := 1) (by decide +kernel) rfl ?_
  refine wp_aload_n (i := 0) (by decide +kernel) rfl ?_
  refine wp_slen hok (by decide +kernel) ?_
  refine wp_callS (idx := 9) (n := 2) (Mc := mJ0_checkIndex) (As := [vI (nI j), vI (nI (lenS.getD i 0))]) (rest := []) (by decide +kernel) rfl (inG_ok (i := 402) (by decide +kernel)) (inG_ok (i := 403) (by decide +kernel)) (inG_ok (i := 96) (by decide +kernel)) (inG_ok (i := 404) (by decide +kernel)) (by decide +kernel) (by decide) (Nat.zero_le _) (c_scheck hj e3) ?_
  rintro v h' rfl
  refine wp_aload_n (i := 0) (by decide +kernel) rfl ?_
  refine wp_iload_n (i := 1) (by decide +kernel) rfl ?_
  refine wp_sbyte hok (by decide +kernel) (vp_in_nI hj e3) ?_
  rw [nI_clamp (by omega)]
  refine wp_sipush (n := 255) (by decide +kernel) ?_
  refine wp_iand (by decide +kernel) ?_
  refine wp_i2c (by decide +kernel) ?_
  rw [show (((bytS.getD i []).getD j 0 &&& (Int16.ofInt 255).toInt32).toUInt32 % 65536).toInt32 = chS i j from e1]
  exact wp_nreturn (ty := .char) (by decide +kernel) rfl e2 ⟨rfl, rfl⟩
theorem c_charAt {j : Nat} (hok : Okal al) (hi : i < 3) (hj : j < lenS.getD i 0) : Ct al mJ0_charAt_5068e (k + 3) [vR 90 i, vI (nI j)] h (Rd h (chS i j)) := by
  obtain ⟨e1, e2, e3⟩ := chS_ok i hi j hj
  refine ct_wp (by decide +kernel) (Nat.le_of_ble_eq_true rfl) ?_
  refine wp_aload_n (i := 0) (by decide +kernel) rfl ?_
  refine wp_callStr (idx := 492) (n := 0) (Mc := mJ0_isLatin1) (As := []) (rest := []) hok (by decide +kernel) rfl rfl (inG_ok (i := 395) (by decide +kernel)) (inG_ok (i := 396) (by decide +kernel)) (inG_ok (i := 397) (by decide +kernel)) (inG_ok (i := 96) (by decide +kernel)) (inG_ok (i := 398) (by decide +kernel)) (by decide +kernel) (by decide) (Nat.zero_le _) (c_isLatin1 hok) ?_
  rintro v h' ⟨rfl, rfl⟩
  refine wp_if_eq (off := 12) (t := 16) (by decide +kernel) rfl (fun z => absurd z (by decide)) (fun _ => ?_)
  refine wp_aload_n (i := 0) (by decide +kernel) rfl ?_
  refine wp_svalue (idx := 9) hok (by decide +kernel) (inG_ok (i := 1878) (by decide +kernel)) ?_
  refine wp_iload_n (i := 1) (by decide +kernel) rfl ?_
  refine wp_callS (idx := 495) (n := 2) (Mc := mJ1_charAt) (As := [vR 91 i, vI (nI j)]) (rest := []) (by decide +kernel) rfl (inG_ok (i := 399) (by decide +kernel)) (inG_ok (i := 400) (by decide +kernel)) (inG_ok (i := 97) (by decide +kernel)) (inG_ok (i := 401) (by decide +kernel)) (by decide +kernel) (by decide) (Nat.zero_le _) (c_lcharAt hok hi hj) ?_
  rintro v h' ⟨rfl, rfl⟩
  exact wp_nreturn (ty := .char) (by decide +kernel) rfl e2 ⟨rfl, rfl⟩
end STRC
