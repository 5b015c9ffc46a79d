/-! THE LAW'S LOOP -/
theorem and63 (x : Int32) : ∃ k, k < 64 ∧ x &&& 63 = nI k := by
  have h1 : (x.toBitVec &&& (63 : Int32).toBitVec).toNat ≤ 63 := by
    rw [BitVec.toNat_and]
    exact Nat.and_le_right
  refine ⟨(x.toBitVec &&& (63 : Int32).toBitVec).toNat, by omega, ?_⟩
  apply Int32.toBitVec_inj.mp
  show x.toBitVec &&& (63 : Int32).toBitVec = (Int32.ofNat _).toBitVec
  rw [Int32.toBitVec_ofNat', BitVec.ofNat_toNat, BitVec.setWidth_eq]
theorem tst {L i : Nat} (hL : L ≤ 2560) (hi : i ≤ 3000) : nI L - 5 < nI i ↔ L < i + 5 := by
  rcases Nat.lt_or_ge L 5 with h | h
  · have h0 : nI L - 5 < 0 := by
      rcases (show L = 0 ∨ L = 1 ∨ L = 2 ∨ L = 3 ∨ L = 4 by omega) with rfl | rfl | rfl | rfl | rfl <;> decide
    have h1 : (0 : Int32) ≤ nI i := show nI 0 ≤ nI i from nI_le (Nat.zero_le i) (by omega)
    exact ⟨fun _ => by omega, fun _ => Int32.lt_of_lt_of_le h0 h1⟩
  · obtain ⟨d, rfl⟩ : ∃ d, L = d + 5 := ⟨L - 5, by omega⟩
    have e : nI (d + 5) - 5 = nI d := by
      rw [← nI_add]
      show nI d + nI 5 - nI 5 = nI d
      exact Int32.add_sub_cancel _ _
    rw [e]
    constructor
    · intro z
      rcases Nat.lt_or_ge (d + 5) (i + 5) with y | y
      · exact y
      · exact absurd z (i_ltn (nI_le (show i ≤ d by omega) (by omega)))
    · intro z
      exact nI_lt (by omega) (by omega)
section LOOP
variable {p : Program} {l : Launch} {e : Env} {s : State} {m : MethodId} {below : List Frame} {meth : Method} {c : Code} {b L : Nat} {xs : Nat → Int32} {Dg : va_G} {cA : Nat → ClassId} {trX trM : Ad → Nat} {qo : Nat}
/-- out of the switch: every case -/
theorem law_switch {H : Heap} {locs : List Loc} {cells slots : Nat} {ls : Array Slot} {Q : State → Prop} {hX hM : Hp} {f : Nat → Int64} {i Dn B : Nat} {g : GS} (T : AT p l e s m below meth c b L xs Dg cA trX trM qo H locs cells slots ls Q hX hM f i Dn B g) : W p l e room_1 s m #[Value.ref b] below meth c H locs cells slots Q (F0 m 32 ls []) := by
  obtain ⟨C, ld, hl, hi, hc, a, bm, o, hD, hB, nx⟩ := id T
  obtain ⟨hx, hb, hr, hml, hown, hts, hXs, hbl, hlocks, hgv⟩ := C.1
  have hL : L ≤ 2560 := C.2.2.2.2.2.2.2.2.2.2.2.1
  refine lv_aload_n hx hb (show decode code 32 = .ok (.aload_n 0, 1) by decide +kernel) rfl (lv_at hl 0 rfl) ?_
  refine lv_iload hx hb (show decode code 33 = .ok (.iload 4, 2) by decide +kernel) (lv_at hl 4 rfl) ?_
  refine va_sld (A := AL s) hx hb hXs hbl (Nat.not_le.mpr hbl) ld.2.2.2.1 (ix1 L (show i < L by omega) (by omega)) (show decode code 35 = .ok (.iaload, 1) by decide +kernel) ?_
  refine lv_bipush (v := 63) hx hb (show decode code 36 = .ok (.bipush 63, 2) by decide +kernel) (by decide) ?_
  refine lv_iand hx hb (show decode code 38 = .ok (.iand, 1) by decide +kernel) ?_
  obtain ⟨k, hk, ek⟩ := and63 (xs (nI i).toNatClampNeg)
  rw [ek]
  have dsw : decode code 39 = .ok (.tableswitch 1600 0 47 #[205, 230, 255, 268, 281, 294, 362, 430, 455, 523, 560, 621, 658, 683, 720, 745, 758, 771, 796, 809, 834, 859, 896, 921, 946, 959, 996, 1033, 1058, 1083, 1120, 1133, 1146, 1183, 1208, 1221, 1270, 1319, 1356, 1369, 1382, 1395, 1420, 1433, 1470, 1495, 1520, 1545], 205) := by decide +kernel
  rcases Nat.lt_or_ge k 48 with h48 | h48
  · have : k = 0 ∨ k = 1 ∨ k = 2 ∨ k = 3 ∨ k = 4 ∨ k = 5 ∨ k = 6 ∨ k = 7 ∨ k = 8 ∨ k = 9 ∨ k = 10 ∨ k = 11 ∨ k = 12 ∨ k = 13 ∨ k = 14 ∨ k = 15 ∨ k = 16 ∨ k = 17 ∨ k = 18 ∨ k = 19 ∨ k = 20 ∨ k = 21 ∨ k = 22 ∨ k = 23 ∨ k = 24 ∨ k = 25 ∨ k = 26 ∨ k = 27 ∨ k = 28 ∨ k = 29 ∨ k = 30 ∨ k = 31 ∨ k = 32 ∨ k = 33 ∨ k = 34 ∨ k = 35 ∨ k = 36 ∨ k = 37 ∨ k = 38 ∨ k = 39 ∨ k = 40 ∨ k = 41 ∨ k = 42 ∨ k = 43 ∨ k = 44 ∨ k = 45 ∨ k = 46 ∨ k = 47 := by omega
    rcases this with rfl | rfl | rfl | rfl | rfl | rfl | rfl | rfl | rfl | rfl | rfl | rfl | rfl | rfl | rfl | rfl | rfl | rfl | rfl | rfl | rfl | rfl | rfl | rfl | rfl | rfl | rfl | rfl | rfl | rfl | rfl | rfl | rfl | rfl | rfl | rfl | rfl | rfl | rfl | rfl | rfl | rfl | rfl | rfl | rfl | rfl | rfl | rfl
    · exact lv_tableIn (off := 205) (tgt := 244) hx hb dsw (by decide) (by decide) (by decide) (by decide) (k_0 T)
    · exact lv_tableIn (off := 230) (tgt := 269) hx hb dsw (by decide) (by decide) (by decide) (by decide) (k_1 T)
    · exact lv_tableIn (off := 255) (tgt := 294) hx hb dsw (by decide) (by decide) (by decide) (by decide) (k_2 T)
    · exact lv_tableIn (off := 268) (tgt := 307) hx hb dsw (by decide) (by decide) (by decide) (by decide) (k_3 T)
    · exact lv_tableIn (off := 281) (tgt := 320) hx hb dsw (by decide) (by decide) (by decide) (by decide) (k_4 T)
    · exact lv_tableIn (off := 294) (tgt := 333) hx hb dsw (by decide) (by decide) (by decide) (by decide) (k_5 T)
    · exact lv_tableIn (off := 362) (tgt := 401) hx hb dsw (by decide) (by decide) (by decide) (by decide) (k_6 T)
    · exact lv_tableIn (off := 430) (tgt := 469) hx hb dsw (by decide) (by decide) (by decide) (by decide) (k_7 T)
    · exact lv_tableIn (off := 455) (tgt := 494) hx hb dsw (by decide) (by decide) (by decide) (by decide) (k_8 T)
    · exact lv_tableIn (off := 523) (tgt := 562) hx hb dsw (by decide) (by decide) (by decide) (by decide) (k_9 T)
    · exact lv_tableIn (off := 560) (tgt := 599) hx hb dsw (by decide) (by decide) (by decide) (by decide) (k_10 T)
    · exact lv_tableIn (off := 621) (tgt := 660) hx hb dsw (by decide) (by decide) (by decide) (by decide) (k_11 T)
    · exact lv_tableIn (off := 658) (tgt := 697) hx hb dsw (by decide) (by decide) (by decide) (by decide) (k_12 T)
    · exact lv_tableIn (off := 683) (tgt := 722) hx hb dsw (by decide) (by decide) (by decide) (by decide) (k_13 T)
    · exact lv_tableIn (off := 720) (tgt := 759) hx hb dsw (by decide) (by decide) (by decide) (by decide) (k_14 T)
    · exact lv_tableIn (off := 745) (tgt := 784) hx hb dsw (by decide) (by decide) (by decide) (by decide) (k_15 T)
    · exact lv_tableIn (off := 758) (tgt := 797) hx hb dsw (by decide) (by decide) (by decide) (by decide) (k_16 T)
    · exact lv_tableIn (off := 771) (tgt := 810) hx hb dsw (by decide) (by decide) (by decide) (by decide) (k_17 T)
    · exact lv_tableIn (off := 796) (tgt := 835) hx hb dsw (by decide) (by decide) (by decide) (by decide) (k_18 T)
    · exact lv_tableIn (off := 809) (tgt := 848) hx hb dsw (by decide) (by decide) (by decide) (by decide) (k_19 T)
    · exact lv_tableIn (off := 834) (tgt := 873) hx hb dsw (by decide) (by decide) (by decide) (by decide) (k_20 T)
    · exact lv_tableIn (off := 859) (tgt := 898) hx hb dsw (by decide) (by decide) (by decide) (by decide) (k_21 T)
    · exact lv_tableIn (off := 896) (tgt := 935) hx hb dsw (by decide) (by decide) (by decide) (by decide) (k_22 T)
    · exact lv_tableIn (off := 921) (tgt := 960) hx hb dsw (by decide) (by decide) (by decide) (by decide) (k_23 T)
    · exact lv_tableIn (off := 946) (tgt := 985) hx hb dsw (by decide) (by decide) (by decide) (by decide) (k_24 T)
    · exact lv_tableIn (off := 959) (tgt := 998) hx hb dsw (by decide) (by decide) (by decide) (by decide) (k_25 T)
    · exact lv_tableIn (off := 996) (tgt := 1035) hx hb dsw (by decide) (by decide) (by decide) (by decide) (k_26 T)
    · exact lv_tableIn (off := 1033) (tgt := 1072) hx hb dsw (by decide) (by decide) (by decide) (by decide) (k_27 T)
    · exact lv_tableIn (off := 1058) (tgt := 1097) hx hb dsw (by decide) (by decide) (by decide) (by decide) (k_28 T)
    · exact lv_tableIn (off := 1083) (tgt := 1122) hx hb dsw (by decide) (by decide) (by decide) (by decide) (k_29 T)
    · exact lv_tableIn (off := 1120) (tgt := 1159) hx hb dsw (by decide) (by decide) (by decide) (by decide) (k_30 T)
    · exact lv_tableIn (off := 1133) (tgt := 1172) hx hb dsw (by decide) (by decide) (by decide) (by decide) (k_31 T)
    · exact lv_tableIn (off := 1146) (tgt := 1185) hx hb dsw (by decide) (by decide) (by decide) (by decide) (k_32 T)
    · exact lv_tableIn (off := 1183) (tgt := 1222) hx hb dsw (by decide) (by decide) (by decide) (by decide) (k_33 T)
    · exact lv_tableIn (off := 1208) (tgt := 1247) hx hb dsw (by decide) (by decide) (by decide) (by decide) (k_34 T)
    · exact lv_tableIn (off := 1221) (tgt := 1260) hx hb dsw (by decide) (by decide) (by decide) (by decide) (k_35 T)
    · exact lv_tableIn (off := 1270) (tgt := 1309) hx hb dsw (by decide) (by decide) (by decide) (by decide) (k_36 T)
    · exact lv_tableIn (off := 1319) (tgt := 1358) hx hb dsw (by decide) (by decide) (by decide) (by decide) (k_37 T)
    · exact lv_tableIn (off := 1356) (tgt := 1395) hx hb dsw (by decide) (by decide) (by decide) (by decide) (k_38 T)
    · exact lv_tableIn (off := 1369) (tgt := 1408) hx hb dsw (by decide) (by decide) (by decide) (by decide) (k_39 T)
    · exact lv_tableIn (off := 1382) (tgt := 1421) hx hb dsw (by decide) (by decide) (by decide) (by decide) (k_40 T)
    · exact lv_tableIn (off := 1395) (tgt := 1434) hx hb dsw (by decide) (by decide) (by decide) (by decide) (k_41 T)
    · exact lv_tableIn (off := 1420) (tgt := 1459) hx hb dsw (by decide) (by decide) (by decide) (by decide) (k_42 T)
    · exact lv_tableIn (off := 1433) (tgt := 1472) hx hb dsw (by decide) (by decide) (by decide) (by decide) (k_43 T)
    · exact lv_tableIn (off := 1470) (tgt := 1509) hx hb dsw (by decide) (by decide) (by decide) (by decide) (k_44 T)
    · exact lv_tableIn (off := 1495) (tgt := 1534) hx hb dsw (by decide) (by decide) (by decide) (by decide) (k_45 T)
    · exact lv_tableIn (off := 1520) (tgt := 1559) hx hb dsw (by decide) (by decide) (by decide) (by decide) (k_46 T)
    · exact lv_tableIn (off := 1545) (tgt := 1584) hx hb dsw (by decide) (by decide) (by decide) (by decide) (k_47 T)
  · have : k = 48 ∨ k = 49 ∨ k = 50 ∨ k = 51 ∨ k = 52 ∨ k = 53 ∨ k = 54 ∨ k = 55 ∨ k = 56 ∨ k = 57 ∨ k = 58 ∨ k = 59 ∨ k = 60 ∨ k = 61 ∨ k = 62 ∨ k = 63 := by omega
    rcases this with rfl | rfl | rfl | rfl | rfl | rfl | rfl | rfl | rfl | rfl | rfl | rfl | rfl | rfl | rfl | rfl
    · exact lv_tableOut (tgt := 1639) hx hb dsw (by decide) (by decide) (W.widen (by omega) (by omega) (nx g hX hM f H locs ls ld a (bm.up (by omega)) (o.mo (by omega)) hl))
    · exact lv_tableOut (tgt := 1639) hx hb dsw (by decide) (by decide) (W.widen (by omega) (by omega) (nx g hX hM f H locs ls ld a (bm.up (by omega)) (o.mo (by omega)) hl))
    · exact lv_tableOut (tgt := 1639) hx hb dsw (by decide) (by decide) (W.widen (by omega) (by omega) (nx g hX hM f H locs ls ld a (bm.up (by omega)) (o.mo (by omega)) hl))
    · exact lv_tableOut (tgt := 1639) hx hb dsw (by decide) (by decide) (W.widen (by omega) (by omega) (nx g hX hM f H locs ls ld a (bm.up (by omega)) (o.mo (by omega)) hl))
    · exact lv_tableOut (tgt := 1639) hx hb dsw (by decide) (by decide) (W.widen (by omega) (by omega) (nx g hX hM f H locs ls ld a (bm.up (by omega)) (o.mo (by omega)) hl))
    · exact lv_tableOut (tgt := 1639) hx hb dsw (by decide) (by decide) (W.widen (by omega) (by omega) (nx g hX hM f H locs ls ld a (bm.up (by omega)) (o.mo (by omega)) hl))
    · exact lv_tableOut (tgt := 1639) hx hb dsw (by decide) (by decide) (W.widen (by omega) (by omega) (nx g hX hM f H locs ls ld a (bm.up (by omega)) (o.mo (by omega)) hl))
    · exact lv_tableOut (tgt := 1639) hx hb dsw (by decide) (by decide) (W.widen (by omega) (by omega) (nx g hX hM f H locs ls ld a (bm.up (by omega)) (o.mo (by omega)) hl))
    · exact lv_tableOut (tgt := 1639) hx hb dsw (by decide) (by decide) (W.widen (by omega) (by omega) (nx g hX hM f H locs ls ld a (bm.up (by omega)) (o.mo (by omega)) hl))
    · exact lv_tableOut (tgt := 1639) hx hb dsw (by decide) (by decide) (W.widen (by omega) (by omega) (nx g hX hM f H locs ls ld a (bm.up (by omega)) (o.mo (by omega)) hl))
    · exact lv_tableOut (tgt := 1639) hx hb dsw (by decide) (by decide) (W.widen (by omega) (by omega) (nx g hX hM f H locs ls ld a (bm.up (by omega)) (o.mo (by omega)) hl))
    · exact lv_tableOut (tgt := 1639) hx hb dsw (by decide) (by decide) (W.widen (by omega) (by omega) (nx g hX hM f H locs ls ld a (bm.up (by omega)) (o.mo (by omega)) hl))
    · exact lv_tableOut (tgt := 1639) hx hb dsw (by decide) (by decide) (W.widen (by omega) (by omega) (nx g hX hM f H locs ls ld a (bm.up (by omega)) (o.mo (by omega)) hl))
    · exact lv_tableOut (tgt := 1639) hx hb dsw (by decide) (by decide) (W.widen (by omega) (by omega) (nx g hX hM f H locs ls ld a (bm.up (by omega)) (o.mo (by omega)) hl))
    · exact lv_tableOut (tgt := 1639) hx hb dsw (by decide) (by decide) (W.widen (by omega) (by omega) (nx g hX hM f H locs ls ld a (bm.up (by omega)) (o.mo (by omega)) hl))
    · exact lv_tableOut (tgt := 1639) hx hb dsw (by decide) (by decide) (W.widen (by omega) (by omega) (nx g hX hM f H locs ls ld a (bm.up (by omega)) (o.mo (by omega)) hl))
/-- the loop, from its head -/
theorem law_loop (C : LC p l s m meth c b L xs Dg cA trX trM qo) : ∀ (n j : Nat), j + n = 513 → ∀ (g : GS) (hX hM : Hp) (f : Nat → Int64) (H : Heap) (locs : List Loc) (ls : Array Slot), LD s Dg cA trX trM qo hX hM f H locs → CI hX g → MI j hM g → Ok (2000 * j) g → lv_has ls 8 (LV b trX trM qo (5 * j)) → W p l e room_1 s m #[Value.ref b] below meth c H locs (119 + j) (4395 + 6 * j) (lw_Z below #[Value.ref b] s) (F0 m 23 ls []) := by
  obtain ⟨hx, hb, hr, hml, hown, hts, hXs, hbl, hlocks, hgv⟩ := id C.1
  have hL : L ≤ 2560 := C.2.2.2.2.2.2.2.2.2.2.2.1
  intro n
  induction n with
  | zero =>
    intro j hj g hX hM f H locs ls ld a bm o hl
    refine lv_iload hx hb (show decode code 23 = .ok (.iload 4, 2) by decide +kernel) (lv_at hl 4 rfl) ?_
    refine lv_aload_n hx hb (show decode code 25 = .ok (.aload_n 0, 1) by decide +kernel) rfl (lv_at hl 0 rfl) ?_
    refine va_slen (A := AL s) hx hb hXs hbl (Nat.not_le.mpr hbl) ld.2.2.2.1 (show decode code 26 = .ok (.arraylength, 1) by decide +kernel) ?_
    refine lv_iconst (v := 5) hx hb (show decode code 27 = .ok (.iconst 5, 1) by decide +kernel) (by decide) ?_
    refine lv_isub hx hb (show decode code 28 = .ok (.isub, 1) by decide +kernel) ?_
    refine lv_icmp_gt (tgt := 1645) hx hb (show decode code 29 = .ok (.if_icmp .gt 1616, 3) by decide +kernel) (by decide) (fun _ => ?_) (fun z => absurd ((tst hL (show 5 * j ≤ 3000 by omega)).mpr (by omega)) z)
    refine lv_iconst (v := 1) hx hb (show decode code 1645 = .ok (.iconst 1, 1) by decide +kernel) (by decide) ?_
    refine va_forget (fun q hq => ld.2.2.2.1.2.2 q hq) ?_
    exact W.widen (k := 601024) (n := 7293034) (by omega) (by omega) (lw_ret hx hb hr hlocks (show decode code 1646 = .ok (.ireturn, 1) by decide +kernel))
  | succ n ih =>
    intro j hj g hX hM f H locs ls ld a bm o hl
    refine lv_iload hx hb (show decode code 23 = .ok (.iload 4, 2) by decide +kernel) (lv_at hl 4 rfl) ?_
    refine lv_aload_n hx hb (show decode code 25 = .ok (.aload_n 0, 1) by decide +kernel) rfl (lv_at hl 0 rfl) ?_
    refine va_slen (A := AL s) hx hb hXs hbl (Nat.not_le.mpr hbl) ld.2.2.2.1 (show decode code 26 = .ok (.arraylength, 1) by decide +kernel) ?_
    refine lv_iconst (v := 5) hx hb (show decode code 27 = .ok (.iconst 5, 1) by decide +kernel) (by decide) ?_
    refine lv_isub hx hb (show decode code 28 = .ok (.isub, 1) by decide +kernel) ?_
    refine lv_icmp_gt (tgt := 1645) hx hb (show decode code 29 = .ok (.if_icmp .gt 1616, 3) by decide +kernel) (by decide) (fun _ => ?_) (fun z => ?_)
    · refine lv_iconst (v := 1) hx hb (show decode code 1645 = .ok (.iconst 1, 1) by decide +kernel) (by decide) ?_
      refine va_forget (fun q hq => ld.2.2.2.1.2.2 q hq) ?_
      exact W.widen (k := 601024) (n := 7293034) (by omega) (by omega) (lw_ret hx hb hr hlocks (show decode code 1646 = .ok (.ireturn, 1) by decide +kernel))
    · have hlt : 5 * j + 5 ≤ L := by
        rcases Nat.lt_or_ge L (5 * j + 5) with y | y
        · exact absurd ((tst hL (show 5 * j ≤ 3000 by omega)).mpr y) z
        · exact y
      refine law_switch (i := 5 * j) (Dn := 2000 * j) (B := j) (g := g) ⟨C, ld, hl, hlt, ⟨by show 119 + j + 1 ≤ 601024; omega, by show 4395 + 6 * j + 6 ≤ 7293034; omega⟩, a, bm, o, by omega, by omega, ?_⟩
      intro g' hX' hM' f' H' locs' ls' ld' a' bm' o' hl'
      refine lv_iinc (k := 4) (v := nI (5 * (j + 1))) (lv' := [(4, .int (nI (5 * (j + 1)))), (0, .ref b), (1, .ref (trX (11, 0))), (2, .ref (trM (12, 0))), (3, .ref qo)]) hx hb (show decode code 1639 = .ok (.iinc 4 5, 3) by decide +kernel) hl' rfl ?_ (by decide) rfl (fun ls2 hl2 => ?_)
      · show nI (5 * j) + nI 5 = nI (5 * (j + 1))
        rw [nI_add]
        rfl
      refine lv_goto (tgt := 23) hx hb (show decode code 1642 = .ok (.goto (-1619), 3) by decide +kernel) (by decide) ?_
      exact ih (j + 1) (by omega) g' hX' hM' f' H' locs' ls2 ld' a' bm' o' (lv_sub hl2 [1, 2, 3, 4, 0] rfl)
end LOOP
