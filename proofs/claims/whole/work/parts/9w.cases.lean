/-! every case of the law -/
section CASES
variable {p : Program} {l : Launch} {e : Env} {s : State} {m : MethodId} {below : List Frame} {meth : Method} {c : Code} {b L : Nat} {xs : Nat → Int32} {Dg : va_G} {cA : Nat → ClassId} {trX trM : Ad → Nat} {qo : Nat} {H : Heap} {locs : List Loc} {cells slots : Nat} {ls : Array Slot} {Q : State → Prop} {hX hM : Hp} {f : Nat → Int64} {i Dn B : Nat} {g : GS}
/-- where the law stands when it has read what to call -/
def AT (p : Program) (l : Launch) (e : Env) (s : State) (m : MethodId) (below : List Frame) (meth : Method) (c : Code) (b L : Nat) (xs : Nat → Int32) (Dg : va_G) (cA : Nat → ClassId) (trX trM : Ad → Nat) (qo : Nat) (H : Heap) (locs : List Loc) (cells slots : Nat) (ls : Array Slot) (Q : State → Prop) (hX hM : Hp) (f : Nat → Int64) (i Dn B : Nat) (g : GS) : Prop :=
  LC p l s m meth c b L xs Dg cA trX trM qo ∧ LD s Dg cA trX trM qo hX hM f H locs ∧ lv_has ls 8 (LV b trX trM qo i) ∧ i + 5 ≤ L ∧ (cells + 1 ≤ room_1.cells ∧ slots + 6 ≤ room_1.slots) ∧ CI hX g ∧ MI B hM g ∧ Ok Dn g ∧ Dn ≤ 900000000 ∧ B ≤ 10000 ∧ NXT p l e s m below meth c b Dg cA trX trM qo i Dn B cells slots Q
abbrev WAT (p : Program) (l : Launch) (e : Env) (s : State) (m : MethodId) (below : List Frame) (meth : Method) (c : Code) (b : Nat) (H : Heap) (locs : List Loc) (cells slots : Nat) (ls : Array Slot) (Q : State → Prop) (pc : Nat) : Prop := W p l e room_1 s m #[Value.ref b] below meth c H locs cells slots Q (F0 m pc ls [])
theorem k_0 (T : AT p l e s m below meth c b L xs Dg cA trX trM qo H locs cells slots ls Q hX hM f i Dn B g) : WAT p l e s m below meth c b H locs cells slots ls Q 244 := by
  obtain ⟨C, ld, hl, hi, hc, a, bm, o, hD, hB, nx⟩ := T
  exact case1 C ld hl hi ⟨by omega, by omega⟩ wo_29 wo_33 rfl rfl (by refine ⟨?_, ?_, ?_, ?_, ?_, ?_, ?_, ?_⟩ <;> decide +kernel : D1 244 29 33 (1375)) (p_Sign a bm o hD hB) nx
theorem k_1 (T : AT p l e s m below meth c b L xs Dg cA trX trM qo H locs cells slots ls Q hX hM f i Dn B g) : WAT p l e s m below meth c b H locs cells slots ls Q 269 := by
  obtain ⟨C, ld, hl, hi, hc, a, bm, o, hD, hB, nx⟩ := T
  exact case1 C ld hl hi ⟨by omega, by omega⟩ wo_34 wo_38 rfl rfl (by refine ⟨?_, ?_, ?_, ?_, ?_, ?_, ?_, ?_⟩ <;> decide +kernel : D1 269 34 38 (1350)) (p_End a bm o hD hB) nx
theorem k_2 (T : AT p l e s m below meth c b L xs Dg cA trX trM qo H locs cells slots ls Q hX hM f i Dn B g) : WAT p l e s m below meth c b H locs cells slots ls Q 294 := by
  obtain ⟨C, ld, hl, hi, hc, a, bm, o, hD, hB, nx⟩ := T
  exact case0 C ld hl hi ⟨by omega, by omega⟩ wo_39 wo_43 rfl rfl (by refine ⟨?_, ?_, ?_, ?_, ?_, ?_⟩ <;> decide +kernel : D0 294 39 43 (1337)) (p_Fighters a bm o hD hB) nx
theorem k_3 (T : AT p l e s m below meth c b L xs Dg cA trX trM qo H locs cells slots ls Q hX hM f i Dn B g) : WAT p l e s m below meth c b H locs cells slots ls Q 307 := by
  obtain ⟨C, ld, hl, hi, hc, a, bm, o, hD, hB, nx⟩ := T
  exact case0 C ld hl hi ⟨by omega, by omega⟩ wo_44 wo_47 rfl rfl (by refine ⟨?_, ?_, ?_, ?_, ?_, ?_⟩ <;> decide +kernel : D0 307 44 47 (1324)) (p_Seats a bm o hD hB) nx
theorem k_4 (T : AT p l e s m below meth c b L xs Dg cA trX trM qo H locs cells slots ls Q hX hM f i Dn B g) : WAT p l e s m below meth c b H locs cells slots ls Q 320 := by
  obtain ⟨C, ld, hl, hi, hc, a, bm, o, hD, hB, nx⟩ := T
  exact case0 C ld hl hi ⟨by omega, by omega⟩ wo_48 wo_51 rfl rfl (by refine ⟨?_, ?_, ?_, ?_, ?_, ?_⟩ <;> decide +kernel : D0 320 48 51 (1311)) (p_Rule a bm o hD hB) nx
theorem k_5 (T : AT p l e s m below meth c b L xs Dg cA trX trM qo H locs cells slots ls Q hX hM f i Dn B g) : WAT p l e s m below meth c b H locs cells slots ls Q 333 := by
  obtain ⟨C, ld, hl, hi, hc, a, bm, o, hD, hB, nx⟩ := T
  have hH : Met l yL_fighter _ _ _ (HQc Dg cA trX qo (PpT g (okFi g (xs (i + 1)) (xs (i + 2))) (aFighter g (xs (i + 1)) (xs (i + 2))).toInt64)) 1 6 (AwO trX qo) := h_fighter (k := 900) (f := f) C.2.1 C.2.2.2.1 ld.2.2.2.2.1 C.2.2.2.2.2.2.2.2.2.1 (by
    cases hok : okFi g (xs (i + 1)) (xs (i + 2)) with
    | true => exact Or.inl ⟨_, c_FighterY a o.1 hok, fun v h' hp => ⟨_, hp.1, (by rw [hp.2]; exact a), Or.inl ⟨rfl, rfl, rfl⟩⟩⟩
    | false => exact Or.inr ⟨x_Fighter a hok, a, Or.inr ⟨rfl, rfl⟩⟩)
  exact caseT2 C ld hl hi hc wS_fighter wo_57 wo_58 rfl (by refine ⟨?_, ?_, ?_, ?_, ?_, ?_, ?_, ?_, ?_, ?_, ?_, ?_, ?_, ?_, ?_, ?_, ?_, ?_, ?_, ?_, ?_, ?_, ?_, ?_, ?_, ?_⟩ <;> decide +kernel : DT2 333 52 57 58 (1241)) o hH (m_Fighter bm o.1) nx
theorem k_6 (T : AT p l e s m below meth c b L xs Dg cA trX trM qo H locs cells slots ls Q hX hM f i Dn B g) : WAT p l e s m below meth c b H locs cells slots ls Q 401 := by
  obtain ⟨C, ld, hl, hi, hc, a, bm, o, hD, hB, nx⟩ := T
  have hH : Met l yL_seat _ _ _ (HQc Dg cA trX qo (PpT g (okSe g (xs (i + 1)) (xs (i + 2))) (aSeat g (xs (i + 1)) (xs (i + 2))).toInt64)) 1 6 (AwO trX qo) := h_seat (k := 900) (f := f) C.2.1 C.2.2.2.1 ld.2.2.2.2.1 C.2.2.2.2.2.2.2.2.2.1 (by
    cases hok : okSe g (xs (i + 1)) (xs (i + 2)) with
    | true => exact Or.inl ⟨_, c_SeatY a o.1 hok, fun v h' hp => ⟨_, hp.1, (by rw [hp.2]; exact a), Or.inl ⟨rfl, rfl, rfl⟩⟩⟩
    | false => exact Or.inr ⟨x_Seat a hok, a, Or.inr ⟨rfl, rfl⟩⟩)
  exact caseT2 C ld hl hi hc wS_seat wo_63 wo_58 rfl (by refine ⟨?_, ?_, ?_, ?_, ?_, ?_, ?_, ?_, ?_, ?_, ?_, ?_, ?_, ?_, ?_, ?_, ?_, ?_, ?_, ?_, ?_, ?_, ?_, ?_, ?_, ?_⟩ <;> decide +kernel : DT2 401 61 63 58 (1173)) o hH (m_Seat bm o.1) nx
theorem k_7 (T : AT p l e s m below meth c b L xs Dg cA trX trM qo H locs cells slots ls Q hX hM f i Dn B g) : WAT p l e s m below meth c b H locs cells slots ls Q 469 := by
  obtain ⟨C, ld, hl, hi, hc, a, bm, o, hD, hB, nx⟩ := T
  exact case1 C ld hl hi ⟨by omega, by omega⟩ wo_64 wo_67 rfl rfl (by refine ⟨?_, ?_, ?_, ?_, ?_, ?_, ?_, ?_⟩ <;> decide +kernel : D1 469 64 67 (1150)) (p_Purse a bm o hD hB) nx
theorem k_8 (T : AT p l e s m below meth c b L xs Dg cA trX trM qo H locs cells slots ls Q hX hM f i Dn B g) : WAT p l e s m below meth c b H locs cells slots ls Q 494 := by
  obtain ⟨C, ld, hl, hi, hc, a, bm, o, hD, hB, nx⟩ := T
  have hH : Met l yL_strength _ _ _ (HQc Dg cA trX qo (PpT g (okTw g (xs (i + 1)) (xs (i + 2))) (aStrength g (xs (i + 1)) (xs (i + 2))).toInt64)) 1 6 (AwO trX qo) := h_strength (k := 900) (f := f) C.2.1 C.2.2.2.1 ld.2.2.2.2.1 C.2.2.2.2.2.2.2.2.2.1 (by
    cases hok : okTw g (xs (i + 1)) (xs (i + 2)) with
    | true => exact Or.inl ⟨_, c_StrengthY a o.1 hok, fun v h' hp => ⟨_, hp.1, hp.2, Or.inl ⟨rfl, rfl, rfl⟩⟩⟩
    | false => exact Or.inr ⟨x_Strength a hok, a, Or.inr ⟨rfl, rfl⟩⟩)
  exact caseT2 C ld hl hi hc wS_strength wo_70 wo_58 rfl (by refine ⟨?_, ?_, ?_, ?_, ?_, ?_, ?_, ?_, ?_, ?_, ?_, ?_, ?_, ?_, ?_, ?_, ?_, ?_, ?_, ?_, ?_, ?_, ?_, ?_, ?_, ?_⟩ <;> decide +kernel : DT2 494 68 70 58 (1080)) o hH (m_Strength bm o.1 o.2) nx
theorem k_9 (T : AT p l e s m below meth c b L xs Dg cA trX trM qo H locs cells slots ls Q hX hM f i Dn B g) : WAT p l e s m below meth c b H locs cells slots ls Q 562 := by
  obtain ⟨C, ld, hl, hi, hc, a, bm, o, hD, hB, nx⟩ := T
  exact case2 C ld hl hi ⟨by omega, by omega⟩ wo_71 wo_74 rfl rfl (by refine ⟨?_, ?_, ?_, ?_, ?_, ?_, ?_, ?_, ?_, ?_⟩ <;> decide +kernel : D2 562 71 74 (1045)) (p_Set a bm o hD hB) nx
theorem k_10 (T : AT p l e s m below meth c b L xs Dg cA trX trM qo H locs cells slots ls Q hX hM f i Dn B g) : WAT p l e s m below meth c b H locs cells slots ls Q 599 := by
  obtain ⟨C, ld, hl, hi, hc, a, bm, o, hD, hB, nx⟩ := T
  exact case4 C ld hl hi ⟨by omega, by omega⟩ wo_75 wo_79 rfl rfl (by refine ⟨?_, ?_, ?_, ?_, ?_, ?_, ?_, ?_, ?_, ?_, ?_, ?_, ?_, ?_⟩ <;> decide +kernel : D4 599 75 79 (984)) (p_Sheet a bm o hD hB) nx
theorem k_11 (T : AT p l e s m below meth c b L xs Dg cA trX trM qo H locs cells slots ls Q hX hM f i Dn B g) : WAT p l e s m below meth c b H locs cells slots ls Q 660 := by
  obtain ⟨C, ld, hl, hi, hc, a, bm, o, hD, hB, nx⟩ := T
  exact case2 C ld hl hi ⟨by omega, by omega⟩ wo_80 wo_83 rfl rfl (by refine ⟨?_, ?_, ?_, ?_, ?_, ?_, ?_, ?_, ?_, ?_⟩ <;> decide +kernel : D2 660 80 83 (947)) (p_Fight a bm o hD hB) nx
theorem k_12 (T : AT p l e s m below meth c b L xs Dg cA trX trM qo H locs cells slots ls Q hX hM f i Dn B g) : WAT p l e s m below meth c b H locs cells slots ls Q 697 := by
  obtain ⟨C, ld, hl, hi, hc, a, bm, o, hD, hB, nx⟩ := T
  exact case1 C ld hl hi ⟨by omega, by omega⟩ wo_84 wo_87 rfl rfl (by refine ⟨?_, ?_, ?_, ?_, ?_, ?_, ?_, ?_⟩ <;> decide +kernel : D1 697 84 87 (922)) (p_Days a bm o hD hB) nx
theorem k_13 (T : AT p l e s m below meth c b L xs Dg cA trX trM qo H locs cells slots ls Q hX hM f i Dn B g) : WAT p l e s m below meth c b H locs cells slots ls Q 722 := by
  obtain ⟨C, ld, hl, hi, hc, a, bm, o, hD, hB, nx⟩ := T
  exact case2 C ld hl hi ⟨by omega, by omega⟩ wo_88 wo_91 rfl rfl (by refine ⟨?_, ?_, ?_, ?_, ?_, ?_, ?_, ?_, ?_, ?_⟩ <;> decide +kernel : D2 722 88 91 (885)) (p_Song a bm o hD hB) nx
theorem k_14 (T : AT p l e s m below meth c b L xs Dg cA trX trM qo H locs cells slots ls Q hX hM f i Dn B g) : WAT p l e s m below meth c b H locs cells slots ls Q 759 := by
  obtain ⟨C, ld, hl, hi, hc, a, bm, o, hD, hB, nx⟩ := T
  exact case1 C ld hl hi ⟨by omega, by omega⟩ wo_92 wo_95 rfl rfl (by refine ⟨?_, ?_, ?_, ?_, ?_, ?_, ?_, ?_⟩ <;> decide +kernel : D1 759 92 95 (860)) (p_Frees a bm o hD hB) nx
theorem k_15 (T : AT p l e s m below meth c b L xs Dg cA trX trM qo H locs cells slots ls Q hX hM f i Dn B g) : WAT p l e s m below meth c b H locs cells slots ls Q 784 := by
  obtain ⟨C, ld, hl, hi, hc, a, bm, o, hD, hB, nx⟩ := T
  exact case0 C ld hl hi ⟨by omega, by omega⟩ wo_96 wo_99 rfl rfl (by refine ⟨?_, ?_, ?_, ?_, ?_, ?_⟩ <;> decide +kernel : D0 784 96 99 (847)) (p_Games a bm o hD hB) nx
theorem k_16 (T : AT p l e s m below meth c b L xs Dg cA trX trM qo H locs cells slots ls Q hX hM f i Dn B g) : WAT p l e s m below meth c b H locs cells slots ls Q 797 := by
  obtain ⟨C, ld, hl, hi, hc, a, bm, o, hD, hB, nx⟩ := T
  exact case0 C ld hl hi ⟨by omega, by omega⟩ wo_100 wo_103 rfl rfl (by refine ⟨?_, ?_, ?_, ?_, ?_, ?_⟩ <;> decide +kernel : D0 797 100 103 (834)) (p_Undo a bm o hD hB) nx
theorem k_17 (T : AT p l e s m below meth c b L xs Dg cA trX trM qo H locs cells slots ls Q hX hM f i Dn B g) : WAT p l e s m below meth c b H locs cells slots ls Q 810 := by
  obtain ⟨C, ld, hl, hi, hc, a, bm, o, hD, hB, nx⟩ := T
  exact case1 C ld hl hi ⟨by omega, by omega⟩ wo_104 wo_107 rfl rfl (by refine ⟨?_, ?_, ?_, ?_, ?_, ?_, ?_, ?_⟩ <;> decide +kernel : D1 810 104 107 (809)) (p_Thumbs a bm o hD hB) nx
theorem k_18 (T : AT p l e s m below meth c b L xs Dg cA trX trM qo H locs cells slots ls Q hX hM f i Dn B g) : WAT p l e s m below meth c b H locs cells slots ls Q 835 := by
  obtain ⟨C, ld, hl, hi, hc, a, bm, o, hD, hB, nx⟩ := T
  exact case0 C ld hl hi ⟨by omega, by omega⟩ wo_108 wo_111 rfl rfl (by refine ⟨?_, ?_, ?_, ?_, ?_, ?_⟩ <;> decide +kernel : D0 835 108 111 (796)) (p_Mercy a bm o hD hB) nx
theorem k_19 (T : AT p l e s m below meth c b L xs Dg cA trX trM qo H locs cells slots ls Q hX hM f i Dn B g) : WAT p l e s m below meth c b H locs cells slots ls Q 848 := by
  obtain ⟨C, ld, hl, hi, hc, a, bm, o, hD, hB, nx⟩ := T
  exact case1 C ld hl hi ⟨by omega, by omega⟩ wo_112 wo_115 rfl rfl (by refine ⟨?_, ?_, ?_, ?_, ?_, ?_, ?_, ?_⟩ <;> decide +kernel : D1 848 112 115 (771)) (p_Claque a bm o hD hB) nx
theorem k_20 (T : AT p l e s m below meth c b L xs Dg cA trX trM qo H locs cells slots ls Q hX hM f i Dn B g) : WAT p l e s m below meth c b H locs cells slots ls Q 873 := by
  obtain ⟨C, ld, hl, hi, hc, a, bm, o, hD, hB, nx⟩ := T
  exact case1 C ld hl hi ⟨by omega, by omega⟩ wo_116 wo_119 rfl rfl (by refine ⟨?_, ?_, ?_, ?_, ?_, ?_, ?_, ?_⟩ <;> decide +kernel : D1 873 116 119 (746)) (p_Tips a bm o hD hB) nx
theorem k_21 (T : AT p l e s m below meth c b L xs Dg cA trX trM qo H locs cells slots ls Q hX hM f i Dn B g) : WAT p l e s m below meth c b H locs cells slots ls Q 898 := by
  obtain ⟨C, ld, hl, hi, hc, a, bm, o, hD, hB, nx⟩ := T
  exact case2 C ld hl hi ⟨by omega, by omega⟩ wo_120 wo_123 rfl rfl (by refine ⟨?_, ?_, ?_, ?_, ?_, ?_, ?_, ?_, ?_, ?_⟩ <;> decide +kernel : D2 898 120 123 (709)) (p_Would a bm o hD hB) nx
theorem k_22 (T : AT p l e s m below meth c b L xs Dg cA trX trM qo H locs cells slots ls Q hX hM f i Dn B g) : WAT p l e s m below meth c b H locs cells slots ls Q 935 := by
  obtain ⟨C, ld, hl, hi, hc, a, bm, o, hD, hB, nx⟩ := T
  exact case1 C ld hl hi ⟨by omega, by omega⟩ wo_124 wo_127 rfl rfl (by refine ⟨?_, ?_, ?_, ?_, ?_, ?_, ?_, ?_⟩ <;> decide +kernel : D1 935 124 127 (684)) (p_Beats a bm o hD hB) nx
theorem k_23 (T : AT p l e s m below meth c b L xs Dg cA trX trM qo H locs cells slots ls Q hX hM f i Dn B g) : WAT p l e s m below meth c b H locs cells slots ls Q 960 := by
  obtain ⟨C, ld, hl, hi, hc, a, bm, o, hD, hB, nx⟩ := T
  exact case1 C ld hl hi ⟨by omega, by omega⟩ wo_128 wo_131 rfl rfl (by refine ⟨?_, ?_, ?_, ?_, ?_, ?_, ?_, ?_⟩ <;> decide +kernel : D1 960 128 131 (659)) (p_Card a bm o hD hB) nx
theorem k_24 (T : AT p l e s m below meth c b L xs Dg cA trX trM qo H locs cells slots ls Q hX hM f i Dn B g) : WAT p l e s m below meth c b H locs cells slots ls Q 985 := by
  obtain ⟨C, ld, hl, hi, hc, a, bm, o, hD, hB, nx⟩ := T
  exact case0 C ld hl hi ⟨by omega, by omega⟩ wo_132 wo_135 rfl rfl (by refine ⟨?_, ?_, ?_, ?_, ?_, ?_⟩ <;> decide +kernel : D0 985 132 135 (646)) (p_Even a bm o hD hB) nx
theorem k_25 (T : AT p l e s m below meth c b L xs Dg cA trX trM qo H locs cells slots ls Q hX hM f i Dn B g) : WAT p l e s m below meth c b H locs cells slots ls Q 998 := by
  obtain ⟨C, ld, hl, hi, hc, a, bm, o, hD, hB, nx⟩ := T
  exact case2 C ld hl hi ⟨by omega, by omega⟩ wo_136 wo_139 rfl rfl (by refine ⟨?_, ?_, ?_, ?_, ?_, ?_, ?_, ?_, ?_, ?_⟩ <;> decide +kernel : D2 998 136 139 (609)) (p_Career a bm o hD hB) nx
theorem k_26 (T : AT p l e s m below meth c b L xs Dg cA trX trM qo H locs cells slots ls Q hX hM f i Dn B g) : WAT p l e s m below meth c b H locs cells slots ls Q 1035 := by
  obtain ⟨C, ld, hl, hi, hc, a, bm, o, hD, hB, nx⟩ := T
  exact case2 C ld hl hi ⟨by omega, by omega⟩ wo_140 wo_143 rfl rfl (by refine ⟨?_, ?_, ?_, ?_, ?_, ?_, ?_, ?_, ?_, ?_⟩ <;> decide +kernel : D2 1035 140 143 (572)) (p_Sword a bm o hD hB) nx
theorem k_27 (T : AT p l e s m below meth c b L xs Dg cA trX trM qo H locs cells slots ls Q hX hM f i Dn B g) : WAT p l e s m below meth c b H locs cells slots ls Q 1072 := by
  obtain ⟨C, ld, hl, hi, hc, a, bm, o, hD, hB, nx⟩ := T
  exact case1 C ld hl hi ⟨by omega, by omega⟩ wo_144 wo_147 rfl rfl (by refine ⟨?_, ?_, ?_, ?_, ?_, ?_, ?_, ?_⟩ <;> decide +kernel : D1 1072 144 147 (547)) (p_Worth a bm o hD hB) nx
theorem k_28 (T : AT p l e s m below meth c b L xs Dg cA trX trM qo H locs cells slots ls Q hX hM f i Dn B g) : WAT p l e s m below meth c b H locs cells slots ls Q 1097 := by
  obtain ⟨C, ld, hl, hi, hc, a, bm, o, hD, hB, nx⟩ := T
  exact case1 C ld hl hi ⟨by omega, by omega⟩ wo_148 wo_151 rfl rfl (by refine ⟨?_, ?_, ?_, ?_, ?_, ?_, ?_, ?_⟩ <;> decide +kernel : D1 1097 148 151 (522)) (p_Hires a bm o hD hB) nx
theorem k_29 (T : AT p l e s m below meth c b L xs Dg cA trX trM qo H locs cells slots ls Q hX hM f i Dn B g) : WAT p l e s m below meth c b H locs cells slots ls Q 1122 := by
  obtain ⟨C, ld, hl, hi, hc, a, bm, o, hD, hB, nx⟩ := T
  exact case2 C ld hl hi ⟨by omega, by omega⟩ wo_152 wo_155 rfl rfl (by refine ⟨?_, ?_, ?_, ?_, ?_, ?_, ?_, ?_, ?_, ?_⟩ <;> decide +kernel : D2 1122 152 155 (485)) (p_Score a bm o hD hB) nx
theorem k_30 (T : AT p l e s m below meth c b L xs Dg cA trX trM qo H locs cells slots ls Q hX hM f i Dn B g) : WAT p l e s m below meth c b H locs cells slots ls Q 1159 := by
  obtain ⟨C, ld, hl, hi, hc, a, bm, o, hD, hB, nx⟩ := T
  exact case0 C ld hl hi ⟨by omega, by omega⟩ wo_156 wo_159 rfl rfl (by refine ⟨?_, ?_, ?_, ?_, ?_, ?_⟩ <;> decide +kernel : D0 1159 156 159 (472)) (p_Wash a bm o hD hB) nx
theorem k_31 (T : AT p l e s m below meth c b L xs Dg cA trX trM qo H locs cells slots ls Q hX hM f i Dn B g) : WAT p l e s m below meth c b H locs cells slots ls Q 1172 := by
  obtain ⟨C, ld, hl, hi, hc, a, bm, o, hD, hB, nx⟩ := T
  exact case0 C ld hl hi ⟨by omega, by omega⟩ wo_160 wo_163 rfl rfl (by refine ⟨?_, ?_, ?_, ?_, ?_, ?_⟩ <;> decide +kernel : D0 1172 160 163 (459)) (p_Ranks a bm o hD hB) nx
theorem k_32 (T : AT p l e s m below meth c b L xs Dg cA trX trM qo H locs cells slots ls Q hX hM f i Dn B g) : WAT p l e s m below meth c b H locs cells slots ls Q 1185 := by
  obtain ⟨C, ld, hl, hi, hc, a, bm, o, hD, hB, nx⟩ := T
  exact case2 C ld hl hi ⟨by omega, by omega⟩ wo_164 wo_167 rfl rfl (by refine ⟨?_, ?_, ?_, ?_, ?_, ?_, ?_, ?_, ?_, ?_⟩ <;> decide +kernel : D2 1185 164 167 (422)) (p_Stands a bm o hD hB) nx
theorem k_33 (T : AT p l e s m below meth c b L xs Dg cA trX trM qo H locs cells slots ls Q hX hM f i Dn B g) : WAT p l e s m below meth c b H locs cells slots ls Q 1222 := by
  obtain ⟨C, ld, hl, hi, hc, a, bm, o, hD, hB, nx⟩ := T
  exact case1 C ld hl hi ⟨by omega, by omega⟩ wo_168 wo_171 rfl rfl (by refine ⟨?_, ?_, ?_, ?_, ?_, ?_, ?_, ?_⟩ <;> decide +kernel : D1 1222 168 171 (397)) (p_Places a bm o hD hB) nx
theorem k_34 (T : AT p l e s m below meth c b L xs Dg cA trX trM qo H locs cells slots ls Q hX hM f i Dn B g) : WAT p l e s m below meth c b H locs cells slots ls Q 1247 := by
  obtain ⟨C, ld, hl, hi, hc, a, bm, o, hD, hB, nx⟩ := T
  exact case0 C ld hl hi ⟨by omega, by omega⟩ wo_172 wo_175 rfl rfl (by refine ⟨?_, ?_, ?_, ?_, ?_, ?_⟩ <;> decide +kernel : D0 1247 172 175 (384)) (p_Watch a bm o hD hB) nx
theorem k_35 (T : AT p l e s m below meth c b L xs Dg cA trX trM qo H locs cells slots ls Q hX hM f i Dn B g) : WAT p l e s m below meth c b H locs cells slots ls Q 1260 := by
  obtain ⟨C, ld, hl, hi, hc, a, bm, o, hD, hB, nx⟩ := T
  exact case3 C ld hl hi ⟨by omega, by omega⟩ wo_176 wo_180 rfl rfl (by refine ⟨?_, ?_, ?_, ?_, ?_, ?_, ?_, ?_, ?_, ?_, ?_, ?_⟩ <;> decide +kernel : D3 1260 176 180 (335)) (p_Odds a bm o hD hB) nx
theorem k_36 (T : AT p l e s m below meth c b L xs Dg cA trX trM qo H locs cells slots ls Q hX hM f i Dn B g) : WAT p l e s m below meth c b H locs cells slots ls Q 1309 := by
  obtain ⟨C, ld, hl, hi, hc, a, bm, o, hD, hB, nx⟩ := T
  exact case3 C ld hl hi ⟨by omega, by omega⟩ wo_181 wo_184 rfl rfl (by refine ⟨?_, ?_, ?_, ?_, ?_, ?_, ?_, ?_, ?_, ?_, ?_, ?_⟩ <;> decide +kernel : D3 1309 181 184 (286)) (p_Till a bm o hD hB) nx
theorem k_37 (T : AT p l e s m below meth c b L xs Dg cA trX trM qo H locs cells slots ls Q hX hM f i Dn B g) : WAT p l e s m below meth c b H locs cells slots ls Q 1358 := by
  obtain ⟨C, ld, hl, hi, hc, a, bm, o, hD, hB, nx⟩ := T
  exact case2 C ld hl hi ⟨by omega, by omega⟩ wo_185 wo_188 rfl rfl (by refine ⟨?_, ?_, ?_, ?_, ?_, ?_, ?_, ?_, ?_, ?_⟩ <;> decide +kernel : D2 1358 185 188 (249)) (p_Heard a bm o hD hB) nx
theorem k_38 (T : AT p l e s m below meth c b L xs Dg cA trX trM qo H locs cells slots ls Q hX hM f i Dn B g) : WAT p l e s m below meth c b H locs cells slots ls Q 1395 := by
  obtain ⟨C, ld, hl, hi, hc, a, bm, o, hD, hB, nx⟩ := T
  exact case0 C ld hl hi ⟨by omega, by omega⟩ wo_189 wo_192 rfl rfl (by refine ⟨?_, ?_, ?_, ?_, ?_, ?_⟩ <;> decide +kernel : D0 1395 189 192 (236)) (p_Forget a bm o hD hB) nx
theorem k_39 (T : AT p l e s m below meth c b L xs Dg cA trX trM qo H locs cells slots ls Q hX hM f i Dn B g) : WAT p l e s m below meth c b H locs cells slots ls Q 1408 := by
  obtain ⟨C, ld, hl, hi, hc, a, bm, o, hD, hB, nx⟩ := T
  exact case0 C ld hl hi ⟨by omega, by omega⟩ wo_193 wo_196 rfl rfl (by refine ⟨?_, ?_, ?_, ?_, ?_, ?_⟩ <;> decide +kernel : D0 1408 193 196 (223)) (p_Fits a bm o hD hB) nx
theorem k_40 (T : AT p l e s m below meth c b L xs Dg cA trX trM qo H locs cells slots ls Q hX hM f i Dn B g) : WAT p l e s m below meth c b H locs cells slots ls Q 1421 := by
  obtain ⟨C, ld, hl, hi, hc, a, bm, o, hD, hB, nx⟩ := T
  exact case0 C ld hl hi ⟨by omega, by omega⟩ wo_197 wo_200 rfl rfl (by refine ⟨?_, ?_, ?_, ?_, ?_, ?_⟩ <;> decide +kernel : D0 1421 197 200 (210)) (p_Ask a bm o hD hB) nx
theorem k_41 (T : AT p l e s m below meth c b L xs Dg cA trX trM qo H locs cells slots ls Q hX hM f i Dn B g) : WAT p l e s m below meth c b H locs cells slots ls Q 1434 := by
  obtain ⟨C, ld, hl, hi, hc, a, bm, o, hD, hB, nx⟩ := T
  exact case1 C ld hl hi ⟨by omega, by omega⟩ wo_201 wo_204 rfl rfl (by refine ⟨?_, ?_, ?_, ?_, ?_, ?_, ?_, ?_⟩ <;> decide +kernel : D1 1434 201 204 (185)) (p_Rests a bm o hD hB) nx
theorem k_42 (T : AT p l e s m below meth c b L xs Dg cA trX trM qo H locs cells slots ls Q hX hM f i Dn B g) : WAT p l e s m below meth c b H locs cells slots ls Q 1459 := by
  obtain ⟨C, ld, hl, hi, hc, a, bm, o, hD, hB, nx⟩ := T
  exact case0 C ld hl hi ⟨by omega, by omega⟩ wo_205 wo_208 rfl rfl (by refine ⟨?_, ?_, ?_, ?_, ?_, ?_⟩ <;> decide +kernel : D0 1459 205 208 (172)) (p_Law a bm o hD hB) nx
theorem k_43 (T : AT p l e s m below meth c b L xs Dg cA trX trM qo H locs cells slots ls Q hX hM f i Dn B g) : WAT p l e s m below meth c b H locs cells slots ls Q 1472 := by
  obtain ⟨C, ld, hl, hi, hc, a, bm, o, hD, hB, nx⟩ := T
  exact case2 C ld hl hi ⟨by omega, by omega⟩ wo_209 wo_212 rfl rfl (by refine ⟨?_, ?_, ?_, ?_, ?_, ?_, ?_, ?_, ?_, ?_⟩ <;> decide +kernel : D2 1472 209 212 (135)) (p_Years a bm o hD hB) nx
theorem k_44 (T : AT p l e s m below meth c b L xs Dg cA trX trM qo H locs cells slots ls Q hX hM f i Dn B g) : WAT p l e s m below meth c b H locs cells slots ls Q 1509 := by
  obtain ⟨C, ld, hl, hi, hc, a, bm, o, hD, hB, nx⟩ := T
  exact case1 C ld hl hi ⟨by omega, by omega⟩ wo_213 wo_216 rfl rfl (by refine ⟨?_, ?_, ?_, ?_, ?_, ?_, ?_, ?_⟩ <;> decide +kernel : D1 1509 213 216 (110)) (p_Keep a bm o hD hB) nx
theorem k_45 (T : AT p l e s m below meth c b L xs Dg cA trX trM qo H locs cells slots ls Q hX hM f i Dn B g) : WAT p l e s m below meth c b H locs cells slots ls Q 1534 := by
  obtain ⟨C, ld, hl, hi, hc, a, bm, o, hD, hB, nx⟩ := T
  exact case1 C ld hl hi ⟨by omega, by omega⟩ wo_217 wo_220 rfl rfl (by refine ⟨?_, ?_, ?_, ?_, ?_, ?_, ?_, ?_⟩ <;> decide +kernel : D1 1534 217 220 (85)) (p_Again a bm o hD hB) nx
theorem k_46 (T : AT p l e s m below meth c b L xs Dg cA trX trM qo H locs cells slots ls Q hX hM f i Dn B g) : WAT p l e s m below meth c b H locs cells slots ls Q 1559 := by
  obtain ⟨C, ld, hl, hi, hc, a, bm, o, hD, hB, nx⟩ := T
  exact case1 C ld hl hi ⟨by omega, by omega⟩ wo_221 wo_224 rfl rfl (by refine ⟨?_, ?_, ?_, ?_, ?_, ?_, ?_, ?_⟩ <;> decide +kernel : D1 1559 221 224 (60)) (p_Count a bm o hD hB) nx
theorem k_47 (T : AT p l e s m below meth c b L xs Dg cA trX trM qo H locs cells slots ls Q hX hM f i Dn B g) : WAT p l e s m below meth c b H locs cells slots ls Q 1584 := by
  obtain ⟨C, ld, hl, hi, hc, a, bm, o, hD, hB, nx⟩ := T
  have hH : Met l yL_row _ _ _ (HQc Dg cA trX qo (PpT g (okRo g (xs (i + 1))) (aRow g (xs (i + 1))))) 1 6 (AwO trX qo) := h_row (k := 900) (f := f) C.2.1 C.2.2.2.1 ld.2.2.2.2.1 C.2.2.2.2.2.2.2.2.2.1 (by
    cases hok : okRo g (xs (i + 1)) with
    | true => exact Or.inl ⟨_, c_RowY a o.1 hok, fun v h' hp => ⟨_, hp.1, (by rw [hp.2]; exact a), Or.inl ⟨rfl, rfl, rfl⟩⟩⟩
    | false => exact Or.inr ⟨x_Row a hok, a, Or.inr ⟨rfl, rfl⟩⟩)
  exact caseT1 C ld hl hi hc wS_row wo_228 wo_58 rfl (by refine ⟨?_, ?_, ?_, ?_, ?_, ?_, ?_, ?_, ?_, ?_, ?_, ?_, ?_, ?_, ?_, ?_, ?_, ?_, ?_, ?_, ?_, ?_, ?_⟩ <;> decide +kernel : DT1 1584 225 228 58 (3)) o hH (m_Row bm o.1) nx
end CASES
