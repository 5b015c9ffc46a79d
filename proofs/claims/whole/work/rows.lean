section
-- ===== PART A: goes FIRST, ahead of the names: the tables' words, and 'selects' of the private methods out of them =====
/-- a private method of a class that the tables say can be made, by its rows of tables_1 -/
def lw_okq (q : MethodName × Nat) : Prop := (q.1.cls ≠ "java/lang/invoke/MethodHandle" ∧ q.1.cls ≠ "java/lang/invoke/VarHandle") ∧ Cond.instantiable q.1.cls q.2 ∈ tables_1 ∧ Cond.privateMethod q.1 ∈ tables_1 ∧ Cond.instanceMethod q.1 ∈ tables_1
theorem lw_p0 : lw_okq (⟨"ByTheThumbs$Rule", "readLevel", "(LByTheThumbs$Text;II)Z"⟩, 3) := ⟨⟨by decide +kernel, by decide +kernel⟩, List.mem_of_getElem? (i := 128) (by decide +kernel), List.mem_of_getElem? (i := 351) (by decide +kernel), List.mem_of_getElem? (i := 352) (by decide +kernel)⟩
theorem lw_p1 : lw_okq (⟨"ByTheThumbs$Rule", "readSigned", "(LByTheThumbs$Text;I)Z"⟩, 3) := ⟨⟨by decide +kernel, by decide +kernel⟩, List.mem_of_getElem? (i := 128) (by decide +kernel), List.mem_of_getElem? (i := 355) (by decide +kernel), List.mem_of_getElem? (i := 356) (by decide +kernel)⟩
theorem lw_p2 : lw_okq (⟨"ByTheThumbs$Rule", "readThing", "(LByTheThumbs$Text;I)Z"⟩, 3) := ⟨⟨by decide +kernel, by decide +kernel⟩, List.mem_of_getElem? (i := 128) (by decide +kernel), List.mem_of_getElem? (i := 367) (by decide +kernel), List.mem_of_getElem? (i := 368) (by decide +kernel)⟩
theorem lw_p3 : lw_okq (⟨"ByTheThumbs$Rule", "step", "(I)V"⟩, 3) := ⟨⟨by decide +kernel, by decide +kernel⟩, List.mem_of_getElem? (i := 128) (by decide +kernel), List.mem_of_getElem? (i := 380) (by decide +kernel), List.mem_of_getElem? (i := 381) (by decide +kernel)⟩
theorem lw_p4 : lw_okq (⟨"ByTheThumbs$Lines", "readLine", "(LByTheThumbs$Text;I)Z"⟩, 5) := ⟨⟨by decide +kernel, by decide +kernel⟩, List.mem_of_getElem? (i := 74) (by decide +kernel), List.mem_of_getElem? (i := 465) (by decide +kernel), List.mem_of_getElem? (i := 466) (by decide +kernel)⟩
theorem lw_p5 : lw_okq (⟨"ByTheThumbs$Crowd", "sparesIf", "(III)Z"⟩, 2) := ⟨⟨by decide +kernel, by decide +kernel⟩, List.mem_of_getElem? (i := 104) (by decide +kernel), List.mem_of_getElem? (i := 513) (by decide +kernel), List.mem_of_getElem? (i := 514) (by decide +kernel)⟩
theorem lw_p6 : lw_okq (⟨"ByTheThumbs$Arena", "payHire", "(LByTheThumbs$State;I)V"⟩, 5) := ⟨⟨by decide +kernel, by decide +kernel⟩, List.mem_of_getElem? (i := 122) (by decide +kernel), List.mem_of_getElem? (i := 608) (by decide +kernel), List.mem_of_getElem? (i := 609) (by decide +kernel)⟩
theorem lw_p7 : lw_okq (⟨"ByTheThumbs$Arena", "excite", "(LByTheThumbs$State;II)V"⟩, 5) := ⟨⟨by decide +kernel, by decide +kernel⟩, List.mem_of_getElem? (i := 122) (by decide +kernel), List.mem_of_getElem? (i := 647) (by decide +kernel), List.mem_of_getElem? (i := 648) (by decide +kernel)⟩
theorem lw_p8 : lw_okq (⟨"ByTheThumbs$Arena", "judge", "(LByTheThumbs$State;I)V"⟩, 5) := ⟨⟨by decide +kernel, by decide +kernel⟩, List.mem_of_getElem? (i := 122) (by decide +kernel), List.mem_of_getElem? (i := 660) (by decide +kernel), List.mem_of_getElem? (i := 661) (by decide +kernel)⟩
theorem lw_p9 : lw_okq (⟨"ByTheThumbs$Arena", "handSword", "(LByTheThumbs$State;I)V"⟩, 5) := ⟨⟨by decide +kernel, by decide +kernel⟩, List.mem_of_getElem? (i := 122) (by decide +kernel), List.mem_of_getElem? (i := 669) (by decide +kernel), List.mem_of_getElem? (i := 670) (by decide +kernel)⟩
theorem lw_p10 : lw_okq (⟨"ByTheThumbs", "remembered", "(I)I"⟩, 12) := ⟨⟨by decide +kernel, by decide +kernel⟩, List.mem_of_getElem? (i := 26) (by decide +kernel), List.mem_of_getElem? (i := 701) (by decide +kernel), List.mem_of_getElem? (i := 702) (by decide +kernel)⟩
theorem lw_p11 : lw_okq (⟨"ByTheThumbs", "wrongAct", "()I"⟩, 12) := ⟨⟨by decide +kernel, by decide +kernel⟩, List.mem_of_getElem? (i := 26) (by decide +kernel), List.mem_of_getElem? (i := 726) (by decide +kernel), List.mem_of_getElem? (i := 727) (by decide +kernel)⟩
theorem lw_p12 : lw_okq (⟨"ByTheThumbs", "playActs", "()I"⟩, 12) := ⟨⟨by decide +kernel, by decide +kernel⟩, List.mem_of_getElem? (i := 26) (by decide +kernel), List.mem_of_getElem? (i := 733) (by decide +kernel), List.mem_of_getElem? (i := 734) (by decide +kernel)⟩
theorem lw_p13 : lw_okq (⟨"ByTheThumbs", "playAct", "()I"⟩, 12) := ⟨⟨by decide +kernel, by decide +kernel⟩, List.mem_of_getElem? (i := 26) (by decide +kernel), List.mem_of_getElem? (i := 737) (by decide +kernel), List.mem_of_getElem? (i := 738) (by decide +kernel)⟩
theorem lw_p14 : lw_okq (⟨"ByTheThumbs", "moreSince", "(LByTheThumbs$State;LByTheThumbs$State;I)I"⟩, 12) := ⟨⟨by decide +kernel, by decide +kernel⟩, List.mem_of_getElem? (i := 26) (by decide +kernel), List.mem_of_getElem? (i := 742) (by decide +kernel), List.mem_of_getElem? (i := 743) (by decide +kernel)⟩
theorem lw_p15 : lw_okq (⟨"ByTheThumbs", "foresee", "(II)I"⟩, 12) := ⟨⟨by decide +kernel, by decide +kernel⟩, List.mem_of_getElem? (i := 26) (by decide +kernel), List.mem_of_getElem? (i := 792) (by decide +kernel), List.mem_of_getElem? (i := 793) (by decide +kernel)⟩
def lw_privs_1 : List (MethodName × Nat) := [(⟨"ByTheThumbs$Rule", "readLevel", "(LByTheThumbs$Text;II)Z"⟩, 3), (⟨"ByTheThumbs$Rule", "readSigned", "(LByTheThumbs$Text;I)Z"⟩, 3), (⟨"ByTheThumbs$Rule", "readThing", "(LByTheThumbs$Text;I)Z"⟩, 3), (⟨"ByTheThumbs$Rule", "step", "(I)V"⟩, 3), (⟨"ByTheThumbs$Lines", "readLine", "(LByTheThumbs$Text;I)Z"⟩, 5), (⟨"ByTheThumbs$Crowd", "sparesIf", "(III)Z"⟩, 2), (⟨"ByTheThumbs$Arena", "payHire", "(LByTheThumbs$State;I)V"⟩, 5), (⟨"ByTheThumbs$Arena", "excite", "(LByTheThumbs$State;II)V"⟩, 5), (⟨"ByTheThumbs$Arena", "judge", "(LByTheThumbs$State;I)V"⟩, 5), (⟨"ByTheThumbs$Arena", "handSword", "(LByTheThumbs$State;I)V"⟩, 5), (⟨"ByTheThumbs", "remembered", "(I)I"⟩, 12), (⟨"ByTheThumbs", "wrongAct", "()I"⟩, 12), (⟨"ByTheThumbs", "playActs", "()I"⟩, 12), (⟨"ByTheThumbs", "playAct", "()I"⟩, 12), (⟨"ByTheThumbs", "moreSince", "(LByTheThumbs$State;LByTheThumbs$State;I)I"⟩, 12), (⟨"ByTheThumbs", "foresee", "(II)I"⟩, 12)]
theorem lw_r1 : ∀ q ∈ lw_privs_1, lw_okq q := List.forall_mem_cons.mpr ⟨lw_p0, List.forall_mem_cons.mpr ⟨lw_p1, List.forall_mem_cons.mpr ⟨lw_p2, List.forall_mem_cons.mpr ⟨lw_p3, List.forall_mem_cons.mpr ⟨lw_p4, List.forall_mem_cons.mpr ⟨lw_p5, List.forall_mem_cons.mpr ⟨lw_p6, List.forall_mem_cons.mpr ⟨lw_p7, List.forall_mem_cons.mpr ⟨lw_p8, List.forall_mem_cons.mpr ⟨lw_p9, List.forall_mem_cons.mpr ⟨lw_p10, List.forall_mem_cons.mpr ⟨lw_p11, List.forall_mem_cons.mpr ⟨lw_p12, List.forall_mem_cons.mpr ⟨lw_p13, List.forall_mem_cons.mpr ⟨lw_p14, List.forall_mem_cons.mpr ⟨lw_p15, fun _ h => absurd h List.not_mem_nil⟩⟩⟩⟩⟩⟩⟩⟩⟩⟩⟩⟩⟩⟩⟩⟩
theorem lw_p16 : lw_okq (⟨"ByTheThumbs", "foreseenGain", "(II)I"⟩, 12) := ⟨⟨by decide +kernel, by decide +kernel⟩, List.mem_of_getElem? (i := 26) (by decide +kernel), List.mem_of_getElem? (i := 796) (by decide +kernel), List.mem_of_getElem? (i := 797) (by decide +kernel)⟩
theorem lw_p17 : lw_okq (⟨"ByTheThumbs$Search", "addPair", "(IIIII)V"⟩, 11) := ⟨⟨by decide +kernel, by decide +kernel⟩, List.mem_of_getElem? (i := 202) (by decide +kernel), List.mem_of_getElem? (i := 825) (by decide +kernel), List.mem_of_getElem? (i := 826) (by decide +kernel)⟩
theorem lw_p18 : lw_okq (⟨"ByTheThumbs$Search", "compare", "(II)V"⟩, 11) := ⟨⟨by decide +kernel, by decide +kernel⟩, List.mem_of_getElem? (i := 202) (by decide +kernel), List.mem_of_getElem? (i := 829) (by decide +kernel), List.mem_of_getElem? (i := 830) (by decide +kernel)⟩
theorem lw_p19 : lw_okq (⟨"ByTheThumbs$Search", "addFight", "(I)V"⟩, 11) := ⟨⟨by decide +kernel, by decide +kernel⟩, List.mem_of_getElem? (i := 202) (by decide +kernel), List.mem_of_getElem? (i := 855) (by decide +kernel), List.mem_of_getElem? (i := 856) (by decide +kernel)⟩
theorem lw_p20 : lw_okq (⟨"ByTheThumbs", "isBetterHire", "(II)Z"⟩, 12) := ⟨⟨by decide +kernel, by decide +kernel⟩, List.mem_of_getElem? (i := 26) (by decide +kernel), List.mem_of_getElem? (i := 878) (by decide +kernel), List.mem_of_getElem? (i := 879) (by decide +kernel)⟩
theorem lw_p21 : lw_okq (⟨"ByTheThumbs$Wall", "canFollow", "(II)Z"⟩, 5) := ⟨⟨by decide +kernel, by decide +kernel⟩, List.mem_of_getElem? (i := 245) (by decide +kernel), List.mem_of_getElem? (i := 911) (by decide +kernel), List.mem_of_getElem? (i := 912) (by decide +kernel)⟩
theorem lw_p22 : lw_okq (⟨"ByTheThumbs$Hearsay", "fitsAll", "(LByTheThumbs$Lines;LByTheThumbs$State;I)Z"⟩, 3) := ⟨⟨by decide +kernel, by decide +kernel⟩, List.mem_of_getElem? (i := 269) (by decide +kernel), List.mem_of_getElem? (i := 993) (by decide +kernel), List.mem_of_getElem? (i := 994) (by decide +kernel)⟩
theorem lw_p23 : lw_okq (⟨"ByTheThumbs$Hearsay", "fitsOne", "(LByTheThumbs$Lines;LByTheThumbs$State;II)Z"⟩, 3) := ⟨⟨by decide +kernel, by decide +kernel⟩, List.mem_of_getElem? (i := 269) (by decide +kernel), List.mem_of_getElem? (i := 997) (by decide +kernel), List.mem_of_getElem? (i := 998) (by decide +kernel)⟩
theorem lw_p24 : lw_okq (⟨"java/lang/Throwable", "fillInStackTrace", "(I)Ljava/lang/Throwable;"⟩, 6) := ⟨⟨by decide +kernel, by decide +kernel⟩, List.mem_of_getElem? (i := 1102) (by decide +kernel), List.mem_of_getElem? (i := 1100) (by decide +kernel), List.mem_of_getElem? (i := 1101) (by decide +kernel)⟩
theorem lw_p25 : lw_okq (⟨"ByTheThumbsModel", "beginText", "(I)V"⟩, 49) := ⟨⟨by decide +kernel, by decide +kernel⟩, List.mem_of_getElem? (i := 1151) (by decide +kernel), List.mem_of_getElem? (i := 1326) (by decide +kernel), List.mem_of_getElem? (i := 1327) (by decide +kernel)⟩
theorem lw_p26 : lw_okq (⟨"ByTheThumbsModel", "begin", "([BII)V"⟩, 49) := ⟨⟨by decide +kernel, by decide +kernel⟩, List.mem_of_getElem? (i := 1151) (by decide +kernel), List.mem_of_getElem? (i := 1330) (by decide +kernel), List.mem_of_getElem? (i := 1331) (by decide +kernel)⟩
theorem lw_p27 : lw_okq (⟨"ByTheThumbsModel", "fine", "()Z"⟩, 49) := ⟨⟨by decide +kernel, by decide +kernel⟩, List.mem_of_getElem? (i := 1151) (by decide +kernel), List.mem_of_getElem? (i := 1334) (by decide +kernel), List.mem_of_getElem? (i := 1335) (by decide +kernel)⟩
theorem lw_p28 : lw_okq (⟨"ByTheThumbsModel", "fault", "(I)V"⟩, 49) := ⟨⟨by decide +kernel, by decide +kernel⟩, List.mem_of_getElem? (i := 1151) (by decide +kernel), List.mem_of_getElem? (i := 1338) (by decide +kernel), List.mem_of_getElem? (i := 1339) (by decide +kernel)⟩
theorem lw_p29 : lw_okq (⟨"ByTheThumbsModel", "readMan", "(I)V"⟩, 49) := ⟨⟨by decide +kernel, by decide +kernel⟩, List.mem_of_getElem? (i := 1151) (by decide +kernel), List.mem_of_getElem? (i := 1342) (by decide +kernel), List.mem_of_getElem? (i := 1343) (by decide +kernel)⟩
theorem lw_p30 : lw_okq (⟨"ByTheThumbsModel", "here", "()I"⟩, 49) := ⟨⟨by decide +kernel, by decide +kernel⟩, List.mem_of_getElem? (i := 1151) (by decide +kernel), List.mem_of_getElem? (i := 1346) (by decide +kernel), List.mem_of_getElem? (i := 1347) (by decide +kernel)⟩
theorem lw_p31 : lw_okq (⟨"ByTheThumbsModel", "oneOf", "(CI)I"⟩, 49) := ⟨⟨by decide +kernel, by decide +kernel⟩, List.mem_of_getElem? (i := 1151) (by decide +kernel), List.mem_of_getElem? (i := 1353) (by decide +kernel), List.mem_of_getElem? (i := 1354) (by decide +kernel)⟩
def lw_privs_2 : List (MethodName × Nat) := [(⟨"ByTheThumbs", "foreseenGain", "(II)I"⟩, 12), (⟨"ByTheThumbs$Search", "addPair", "(IIIII)V"⟩, 11), (⟨"ByTheThumbs$Search", "compare", "(II)V"⟩, 11), (⟨"ByTheThumbs$Search", "addFight", "(I)V"⟩, 11), (⟨"ByTheThumbs", "isBetterHire", "(II)Z"⟩, 12), (⟨"ByTheThumbs$Wall", "canFollow", "(II)Z"⟩, 5), (⟨"ByTheThumbs$Hearsay", "fitsAll", "(LByTheThumbs$Lines;LByTheThumbs$State;I)Z"⟩, 3), (⟨"ByTheThumbs$Hearsay", "fitsOne", "(LByTheThumbs$Lines;LByTheThumbs$State;II)Z"⟩, 3), (⟨"java/lang/Throwable", "fillInStackTrace", "(I)Ljava/lang/Throwable;"⟩, 6), (⟨"ByTheThumbsModel", "beginText", "(I)V"⟩, 49), (⟨"ByTheThumbsModel", "begin", "([BII)V"⟩, 49), (⟨"ByTheThumbsModel", "fine", "()Z"⟩, 49), (⟨"ByTheThumbsModel", "fault", "(I)V"⟩, 49), (⟨"ByTheThumbsModel", "readMan", "(I)V"⟩, 49), (⟨"ByTheThumbsModel", "here", "()I"⟩, 49), (⟨"ByTheThumbsModel", "oneOf", "(CI)I"⟩, 49)]
theorem lw_r2 : ∀ q ∈ lw_privs_2, lw_okq q := List.forall_mem_cons.mpr ⟨lw_p16, List.forall_mem_cons.mpr ⟨lw_p17, List.forall_mem_cons.mpr ⟨lw_p18, List.forall_mem_cons.mpr ⟨lw_p19, List.forall_mem_cons.mpr ⟨lw_p20, List.forall_mem_cons.mpr ⟨lw_p21, List.forall_mem_cons.mpr ⟨lw_p22, List.forall_mem_cons.mpr ⟨lw_p23, List.forall_mem_cons.mpr ⟨lw_p24, List.forall_mem_cons.mpr ⟨lw_p25, List.forall_mem_cons.mpr ⟨lw_p26, List.forall_mem_cons.mpr ⟨lw_p27, List.forall_mem_cons.mpr ⟨lw_p28, List.forall_mem_cons.mpr ⟨lw_p29, List.forall_mem_cons.mpr ⟨lw_p30, List.forall_mem_cons.mpr ⟨lw_p31, fun _ h => absurd h List.not_mem_nil⟩⟩⟩⟩⟩⟩⟩⟩⟩⟩⟩⟩⟩⟩⟩⟩
theorem lw_p32 : lw_okq (⟨"ByTheThumbsModel", "number", "(I)I"⟩, 49) := ⟨⟨by decide +kernel, by decide +kernel⟩, List.mem_of_getElem? (i := 1151) (by decide +kernel), List.mem_of_getElem? (i := 1357) (by decide +kernel), List.mem_of_getElem? (i := 1358) (by decide +kernel)⟩
theorem lw_p33 : lw_okq (⟨"ByTheThumbsModel", "passes", "(C)Z"⟩, 49) := ⟨⟨by decide +kernel, by decide +kernel⟩, List.mem_of_getElem? (i := 1151) (by decide +kernel), List.mem_of_getElem? (i := 1361) (by decide +kernel), List.mem_of_getElem? (i := 1362) (by decide +kernel)⟩
theorem lw_p34 : lw_okq (⟨"ByTheThumbsModel", "wasRight", "()Z"⟩, 49) := ⟨⟨by decide +kernel, by decide +kernel⟩, List.mem_of_getElem? (i := 1151) (by decide +kernel), List.mem_of_getElem? (i := 1365) (by decide +kernel), List.mem_of_getElem? (i := 1366) (by decide +kernel)⟩
theorem lw_p35 : lw_okq (⟨"ByTheThumbsModel", "told", "()V"⟩, 49) := ⟨⟨by decide +kernel, by decide +kernel⟩, List.mem_of_getElem? (i := 1151) (by decide +kernel), List.mem_of_getElem? (i := 1369) (by decide +kernel), List.mem_of_getElem? (i := 1370) (by decide +kernel)⟩
theorem lw_p36 : lw_okq (⟨"ByTheThumbsModel", "need", "(C)V"⟩, 49) := ⟨⟨by decide +kernel, by decide +kernel⟩, List.mem_of_getElem? (i := 1151) (by decide +kernel), List.mem_of_getElem? (i := 1377) (by decide +kernel), List.mem_of_getElem? (i := 1378) (by decide +kernel)⟩
theorem lw_p37 : lw_okq (⟨"ByTheThumbsModel", "readRule", "()Z"⟩, 49) := ⟨⟨by decide +kernel, by decide +kernel⟩, List.mem_of_getElem? (i := 1151) (by decide +kernel), List.mem_of_getElem? (i := 1385) (by decide +kernel), List.mem_of_getElem? (i := 1386) (by decide +kernel)⟩
theorem lw_p38 : lw_okq (⟨"ByTheThumbsModel", "held", "(I)I"⟩, 49) := ⟨⟨by decide +kernel, by decide +kernel⟩, List.mem_of_getElem? (i := 1151) (by decide +kernel), List.mem_of_getElem? (i := 1389) (by decide +kernel), List.mem_of_getElem? (i := 1390) (by decide +kernel)⟩
theorem lw_p39 : lw_okq (⟨"ByTheThumbsModel", "sum", "(I)I"⟩, 49) := ⟨⟨by decide +kernel, by decide +kernel⟩, List.mem_of_getElem? (i := 1151) (by decide +kernel), List.mem_of_getElem? (i := 1393) (by decide +kernel), List.mem_of_getElem? (i := 1394) (by decide +kernel)⟩
theorem lw_p40 : lw_okq (⟨"ByTheThumbsModel", "product", "(I)I"⟩, 49) := ⟨⟨by decide +kernel, by decide +kernel⟩, List.mem_of_getElem? (i := 1151) (by decide +kernel), List.mem_of_getElem? (i := 1397) (by decide +kernel), List.mem_of_getElem? (i := 1398) (by decide +kernel)⟩
theorem lw_p41 : lw_okq (⟨"ByTheThumbsModel", "thing", "(I)I"⟩, 49) := ⟨⟨by decide +kernel, by decide +kernel⟩, List.mem_of_getElem? (i := 1151) (by decide +kernel), List.mem_of_getElem? (i := 1401) (by decide +kernel), List.mem_of_getElem? (i := 1402) (by decide +kernel)⟩
theorem lw_p42 : lw_okq (⟨"ByTheThumbsModel", "isMan", "(I)Z"⟩, 49) := ⟨⟨by decide +kernel, by decide +kernel⟩, List.mem_of_getElem? (i := 1151) (by decide +kernel), List.mem_of_getElem? (i := 1412) (by decide +kernel), List.mem_of_getElem? (i := 1413) (by decide +kernel)⟩
theorem lw_p43 : lw_okq (⟨"ByTheThumbsModel", "lost", "()I"⟩, 49) := ⟨⟨by decide +kernel, by decide +kernel⟩, List.mem_of_getElem? (i := 1151) (by decide +kernel), List.mem_of_getElem? (i := 1416) (by decide +kernel), List.mem_of_getElem? (i := 1417) (by decide +kernel)⟩
theorem lw_p44 : lw_okq (⟨"ByTheThumbsModel", "areTwo", "(II)Z"⟩, 49) := ⟨⟨by decide +kernel, by decide +kernel⟩, List.mem_of_getElem? (i := 1151) (by decide +kernel), List.mem_of_getElem? (i := 1432) (by decide +kernel), List.mem_of_getElem? (i := 1433) (by decide +kernel)⟩
theorem lw_p45 : lw_okq (⟨"ByTheThumbsModel", "strengthOf", "([III)I"⟩, 49) := ⟨⟨by decide +kernel, by decide +kernel⟩, List.mem_of_getElem? (i := 1151) (by decide +kernel), List.mem_of_getElem? (i := 1436) (by decide +kernel), List.mem_of_getElem? (i := 1437) (by decide +kernel)⟩
theorem lw_p46 : lw_okq (⟨"ByTheThumbsModel", "skill", "(I)I"⟩, 49) := ⟨⟨by decide +kernel, by decide +kernel⟩, List.mem_of_getElem? (i := 1151) (by decide +kernel), List.mem_of_getElem? (i := 1440) (by decide +kernel), List.mem_of_getElem? (i := 1441) (by decide +kernel)⟩
theorem lw_p47 : lw_okq (⟨"ByTheThumbsModel", "arms", "(I)I"⟩, 49) := ⟨⟨by decide +kernel, by decide +kernel⟩, List.mem_of_getElem? (i := 1151) (by decide +kernel), List.mem_of_getElem? (i := 1444) (by decide +kernel), List.mem_of_getElem? (i := 1445) (by decide +kernel)⟩
def lw_privs_3 : List (MethodName × Nat) := [(⟨"ByTheThumbsModel", "number", "(I)I"⟩, 49), (⟨"ByTheThumbsModel", "passes", "(C)Z"⟩, 49), (⟨"ByTheThumbsModel", "wasRight", "()Z"⟩, 49), (⟨"ByTheThumbsModel", "told", "()V"⟩, 49), (⟨"ByTheThumbsModel", "need", "(C)V"⟩, 49), (⟨"ByTheThumbsModel", "readRule", "()Z"⟩, 49), (⟨"ByTheThumbsModel", "held", "(I)I"⟩, 49), (⟨"ByTheThumbsModel", "sum", "(I)I"⟩, 49), (⟨"ByTheThumbsModel", "product", "(I)I"⟩, 49), (⟨"ByTheThumbsModel", "thing", "(I)I"⟩, 49), (⟨"ByTheThumbsModel", "isMan", "(I)Z"⟩, 49), (⟨"ByTheThumbsModel", "lost", "()I"⟩, 49), (⟨"ByTheThumbsModel", "areTwo", "(II)Z"⟩, 49), (⟨"ByTheThumbsModel", "strengthOf", "([III)I"⟩, 49), (⟨"ByTheThumbsModel", "skill", "(I)I"⟩, 49), (⟨"ByTheThumbsModel", "arms", "(I)I"⟩, 49)]
theorem lw_r3 : ∀ q ∈ lw_privs_3, lw_okq q := List.forall_mem_cons.mpr ⟨lw_p32, List.forall_mem_cons.mpr ⟨lw_p33, List.forall_mem_cons.mpr ⟨lw_p34, List.forall_mem_cons.mpr ⟨lw_p35, List.forall_mem_cons.mpr ⟨lw_p36, List.forall_mem_cons.mpr ⟨lw_p37, List.forall_mem_cons.mpr ⟨lw_p38, List.forall_mem_cons.mpr ⟨lw_p39, List.forall_mem_cons.mpr ⟨lw_p40, List.forall_mem_cons.mpr ⟨lw_p41, List.forall_mem_cons.mpr ⟨lw_p42, List.forall_mem_cons.mpr ⟨lw_p43, List.forall_mem_cons.mpr ⟨lw_p44, List.forall_mem_cons.mpr ⟨lw_p45, List.forall_mem_cons.mpr ⟨lw_p46, List.forall_mem_cons.mpr ⟨lw_p47, fun _ h => absurd h List.not_mem_nil⟩⟩⟩⟩⟩⟩⟩⟩⟩⟩⟩⟩⟩⟩⟩⟩
theorem lw_p48 : lw_okq (⟨"ByTheThumbsModel", "refusesFight", "([III)I"⟩, 49) := ⟨⟨by decide +kernel, by decide +kernel⟩, List.mem_of_getElem? (i := 1151) (by decide +kernel), List.mem_of_getElem? (i := 1462) (by decide +kernel), List.mem_of_getElem? (i := 1463) (by decide +kernel)⟩
theorem lw_p49 : lw_okq (⟨"ByTheThumbsModel", "canFight", "([II)Z"⟩, 49) := ⟨⟨by decide +kernel, by decide +kernel⟩, List.mem_of_getElem? (i := 1151) (by decide +kernel), List.mem_of_getElem? (i := 1466) (by decide +kernel), List.mem_of_getElem? (i := 1467) (by decide +kernel)⟩
theorem lw_p50 : lw_okq (⟨"ByTheThumbsModel", "remember", "([I)V"⟩, 49) := ⟨⟨by decide +kernel, by decide +kernel⟩, List.mem_of_getElem? (i := 1151) (by decide +kernel), List.mem_of_getElem? (i := 1470) (by decide +kernel), List.mem_of_getElem? (i := 1471) (by decide +kernel)⟩
theorem lw_p51 : lw_okq (⟨"ByTheThumbsModel", "goFight", "([III)I"⟩, 49) := ⟨⟨by decide +kernel, by decide +kernel⟩, List.mem_of_getElem? (i := 1151) (by decide +kernel), List.mem_of_getElem? (i := 1477) (by decide +kernel), List.mem_of_getElem? (i := 1478) (by decide +kernel)⟩
theorem lw_p52 : lw_okq (⟨"ByTheThumbsModel", "hire", "(I)I"⟩, 49) := ⟨⟨by decide +kernel, by decide +kernel⟩, List.mem_of_getElem? (i := 1151) (by decide +kernel), List.mem_of_getElem? (i := 1481) (by decide +kernel), List.mem_of_getElem? (i := 1482) (by decide +kernel)⟩
theorem lw_p53 : lw_okq (⟨"ByTheThumbsModel", "pays", "([III)V"⟩, 49) := ⟨⟨by decide +kernel, by decide +kernel⟩, List.mem_of_getElem? (i := 1151) (by decide +kernel), List.mem_of_getElem? (i := 1485) (by decide +kernel), List.mem_of_getElem? (i := 1486) (by decide +kernel)⟩
theorem lw_p54 : lw_okq (⟨"ByTheThumbsModel", "owner", "(I)I"⟩, 49) := ⟨⟨by decide +kernel, by decide +kernel⟩, List.mem_of_getElem? (i := 1151) (by decide +kernel), List.mem_of_getElem? (i := 1489) (by decide +kernel), List.mem_of_getElem? (i := 1490) (by decide +kernel)⟩
theorem lw_p55 : lw_okq (⟨"ByTheThumbsModel", "pairOf", "(II)I"⟩, 49) := ⟨⟨by decide +kernel, by decide +kernel⟩, List.mem_of_getElem? (i := 1151) (by decide +kernel), List.mem_of_getElem? (i := 1494) (by decide +kernel), List.mem_of_getElem? (i := 1495) (by decide +kernel)⟩
theorem lw_p56 : lw_okq (⟨"ByTheThumbsModel", "isSparedNow", "([II)Z"⟩, 49) := ⟨⟨by decide +kernel, by decide +kernel⟩, List.mem_of_getElem? (i := 1151) (by decide +kernel), List.mem_of_getElem? (i := 1504) (by decide +kernel), List.mem_of_getElem? (i := 1505) (by decide +kernel)⟩
theorem lw_p57 : lw_okq (⟨"ByTheThumbsModel", "isSpared", "(III)Z"⟩, 49) := ⟨⟨by decide +kernel, by decide +kernel⟩, List.mem_of_getElem? (i := 1151) (by decide +kernel), List.mem_of_getElem? (i := 1508) (by decide +kernel), List.mem_of_getElem? (i := 1509) (by decide +kernel)⟩
theorem lw_p58 : lw_okq (⟨"ByTheThumbsModel", "upFor", "(III)I"⟩, 49) := ⟨⟨by decide +kernel, by decide +kernel⟩, List.mem_of_getElem? (i := 1151) (by decide +kernel), List.mem_of_getElem? (i := 1512) (by decide +kernel), List.mem_of_getElem? (i := 1513) (by decide +kernel)⟩
theorem lw_p59 : lw_okq (⟨"ByTheThumbsModel", "peopleOf", "(I)I"⟩, 49) := ⟨⟨by decide +kernel, by decide +kernel⟩, List.mem_of_getElem? (i := 1151) (by decide +kernel), List.mem_of_getElem? (i := 1517) (by decide +kernel), List.mem_of_getElem? (i := 1518) (by decide +kernel)⟩
theorem lw_p60 : lw_okq (⟨"ByTheThumbsModel", "allSeats", "()I"⟩, 49) := ⟨⟨by decide +kernel, by decide +kernel⟩, List.mem_of_getElem? (i := 1151) (by decide +kernel), List.mem_of_getElem? (i := 1521) (by decide +kernel), List.mem_of_getElem? (i := 1522) (by decide +kernel)⟩
theorem lw_p61 : lw_okq (⟨"ByTheThumbsModel", "goesFree", "([II)V"⟩, 49) := ⟨⟨by decide +kernel, by decide +kernel⟩, List.mem_of_getElem? (i := 1151) (by decide +kernel), List.mem_of_getElem? (i := 1525) (by decide +kernel), List.mem_of_getElem? (i := 1526) (by decide +kernel)⟩
theorem lw_p62 : lw_okq (⟨"ByTheThumbsModel", "tell", "(J)V"⟩, 49) := ⟨⟨by decide +kernel, by decide +kernel⟩, List.mem_of_getElem? (i := 1151) (by decide +kernel), List.mem_of_getElem? (i := 1529) (by decide +kernel), List.mem_of_getElem? (i := 1530) (by decide +kernel)⟩
theorem lw_p63 : lw_okq (⟨"ByTheThumbsModel", "goDays", "([II)V"⟩, 49) := ⟨⟨by decide +kernel, by decide +kernel⟩, List.mem_of_getElem? (i := 1151) (by decide +kernel), List.mem_of_getElem? (i := 1537) (by decide +kernel), List.mem_of_getElem? (i := 1538) (by decide +kernel)⟩
def lw_privs_4 : List (MethodName × Nat) := [(⟨"ByTheThumbsModel", "refusesFight", "([III)I"⟩, 49), (⟨"ByTheThumbsModel", "canFight", "([II)Z"⟩, 49), (⟨"ByTheThumbsModel", "remember", "([I)V"⟩, 49), (⟨"ByTheThumbsModel", "goFight", "([III)I"⟩, 49), (⟨"ByTheThumbsModel", "hire", "(I)I"⟩, 49), (⟨"ByTheThumbsModel", "pays", "([III)V"⟩, 49), (⟨"ByTheThumbsModel", "owner", "(I)I"⟩, 49), (⟨"ByTheThumbsModel", "pairOf", "(II)I"⟩, 49), (⟨"ByTheThumbsModel", "isSparedNow", "([II)Z"⟩, 49), (⟨"ByTheThumbsModel", "isSpared", "(III)Z"⟩, 49), (⟨"ByTheThumbsModel", "upFor", "(III)I"⟩, 49), (⟨"ByTheThumbsModel", "peopleOf", "(I)I"⟩, 49), (⟨"ByTheThumbsModel", "allSeats", "()I"⟩, 49), (⟨"ByTheThumbsModel", "goesFree", "([II)V"⟩, 49), (⟨"ByTheThumbsModel", "tell", "(J)V"⟩, 49), (⟨"ByTheThumbsModel", "goDays", "([II)V"⟩, 49)]
theorem lw_r4 : ∀ q ∈ lw_privs_4, lw_okq q := List.forall_mem_cons.mpr ⟨lw_p48, List.forall_mem_cons.mpr ⟨lw_p49, List.forall_mem_cons.mpr ⟨lw_p50, List.forall_mem_cons.mpr ⟨lw_p51, List.forall_mem_cons.mpr ⟨lw_p52, List.forall_mem_cons.mpr ⟨lw_p53, List.forall_mem_cons.mpr ⟨lw_p54, List.forall_mem_cons.mpr ⟨lw_p55, List.forall_mem_cons.mpr ⟨lw_p56, List.forall_mem_cons.mpr ⟨lw_p57, List.forall_mem_cons.mpr ⟨lw_p58, List.forall_mem_cons.mpr ⟨lw_p59, List.forall_mem_cons.mpr ⟨lw_p60, List.forall_mem_cons.mpr ⟨lw_p61, List.forall_mem_cons.mpr ⟨lw_p62, List.forall_mem_cons.mpr ⟨lw_p63, fun _ h => absurd h List.not_mem_nil⟩⟩⟩⟩⟩⟩⟩⟩⟩⟩⟩⟩⟩⟩⟩⟩
theorem lw_p64 : lw_okq (⟨"ByTheThumbsModel", "refusesSong", "(II)I"⟩, 49) := ⟨⟨by decide +kernel, by decide +kernel⟩, List.mem_of_getElem? (i := 1151) (by decide +kernel), List.mem_of_getElem? (i := 1545) (by decide +kernel), List.mem_of_getElem? (i := 1546) (by decide +kernel)⟩
theorem lw_p65 : lw_okq (⟨"ByTheThumbsModel", "goSong", "(II)V"⟩, 49) := ⟨⟨by decide +kernel, by decide +kernel⟩, List.mem_of_getElem? (i := 1151) (by decide +kernel), List.mem_of_getElem? (i := 1549) (by decide +kernel), List.mem_of_getElem? (i := 1550) (by decide +kernel)⟩
theorem lw_p66 : lw_okq (⟨"ByTheThumbsModel", "refusesFree", "(I)I"⟩, 49) := ⟨⟨by decide +kernel, by decide +kernel⟩, List.mem_of_getElem? (i := 1151) (by decide +kernel), List.mem_of_getElem? (i := 1557) (by decide +kernel), List.mem_of_getElem? (i := 1558) (by decide +kernel)⟩
theorem lw_p67 : lw_okq (⟨"ByTheThumbsModel", "goFree", "(I)V"⟩, 49) := ⟨⟨by decide +kernel, by decide +kernel⟩, List.mem_of_getElem? (i := 1151) (by decide +kernel), List.mem_of_getElem? (i := 1561) (by decide +kernel), List.mem_of_getElem? (i := 1562) (by decide +kernel)⟩
theorem lw_p68 : lw_okq (⟨"ByTheThumbsModel", "readAct", "(I)V"⟩, 49) := ⟨⟨by decide +kernel, by decide +kernel⟩, List.mem_of_getElem? (i := 1151) (by decide +kernel), List.mem_of_getElem? (i := 1569) (by decide +kernel), List.mem_of_getElem? (i := 1570) (by decide +kernel)⟩
theorem lw_p69 : lw_okq (⟨"ByTheThumbsModel", "act", "(III)Z"⟩, 49) := ⟨⟨by decide +kernel, by decide +kernel⟩, List.mem_of_getElem? (i := 1151) (by decide +kernel), List.mem_of_getElem? (i := 1573) (by decide +kernel), List.mem_of_getElem? (i := 1574) (by decide +kernel)⟩
theorem lw_p70 : lw_okq (⟨"ByTheThumbsModel", "those", "([II)I"⟩, 49) := ⟨⟨by decide +kernel, by decide +kernel⟩, List.mem_of_getElem? (i := 1151) (by decide +kernel), List.mem_of_getElem? (i := 1577) (by decide +kernel), List.mem_of_getElem? (i := 1578) (by decide +kernel)⟩
theorem lw_p71 : lw_okq (⟨"ByTheThumbsModel", "tryFight", "([III)I"⟩, 49) := ⟨⟨by decide +kernel, by decide +kernel⟩, List.mem_of_getElem? (i := 1151) (by decide +kernel), List.mem_of_getElem? (i := 1605) (by decide +kernel), List.mem_of_getElem? (i := 1606) (by decide +kernel)⟩
theorem lw_p72 : lw_okq (⟨"ByTheThumbsModel", "goCard", "(IIIIII)V"⟩, 49) := ⟨⟨by decide +kernel, by decide +kernel⟩, List.mem_of_getElem? (i := 1151) (by decide +kernel), List.mem_of_getElem? (i := 1618) (by decide +kernel), List.mem_of_getElem? (i := 1619) (by decide +kernel)⟩
theorem lw_p73 : lw_okq (⟨"ByTheThumbsModel", "goCareer", "(III)V"⟩, 49) := ⟨⟨by decide +kernel, by decide +kernel⟩, List.mem_of_getElem? (i := 1151) (by decide +kernel), List.mem_of_getElem? (i := 1634) (by decide +kernel), List.mem_of_getElem? (i := 1635) (by decide +kernel)⟩
theorem lw_p74 : lw_okq (⟨"ByTheThumbsModel", "hiresOf", "(I)I"⟩, 49) := ⟨⟨by decide +kernel, by decide +kernel⟩, List.mem_of_getElem? (i := 1151) (by decide +kernel), List.mem_of_getElem? (i := 1650) (by decide +kernel), List.mem_of_getElem? (i := 1651) (by decide +kernel)⟩
theorem lw_p75 : lw_okq (⟨"ByTheThumbsModel", "favoursOf", "(I)I"⟩, 49) := ⟨⟨by decide +kernel, by decide +kernel⟩, List.mem_of_getElem? (i := 1151) (by decide +kernel), List.mem_of_getElem? (i := 1654) (by decide +kernel), List.mem_of_getElem? (i := 1655) (by decide +kernel)⟩
theorem lw_p76 : lw_okq (⟨"ByTheThumbsModel", "countOrders", "(II)I"⟩, 49) := ⟨⟨by decide +kernel, by decide +kernel⟩, List.mem_of_getElem? (i := 1151) (by decide +kernel), List.mem_of_getElem? (i := 1670) (by decide +kernel), List.mem_of_getElem? (i := 1671) (by decide +kernel)⟩
theorem lw_p77 : lw_okq (⟨"ByTheThumbsModel", "canCome", "(IIII)Z"⟩, 49) := ⟨⟨by decide +kernel, by decide +kernel⟩, List.mem_of_getElem? (i := 1151) (by decide +kernel), List.mem_of_getElem? (i := 1674) (by decide +kernel), List.mem_of_getElem? (i := 1675) (by decide +kernel)⟩
theorem lw_p78 : lw_okq (⟨"ByTheThumbsModel", "tellPart", "(JJ)V"⟩, 49) := ⟨⟨by decide +kernel, by decide +kernel⟩, List.mem_of_getElem? (i := 1151) (by decide +kernel), List.mem_of_getElem? (i := 1682) (by decide +kernel), List.mem_of_getElem? (i := 1683) (by decide +kernel)⟩
theorem lw_p79 : lw_okq (⟨"ByTheThumbsModel", "fitting", "()I"⟩, 49) := ⟨⟨by decide +kernel, by decide +kernel⟩, List.mem_of_getElem? (i := 1151) (by decide +kernel), List.mem_of_getElem? (i := 1724) (by decide +kernel), List.mem_of_getElem? (i := 1725) (by decide +kernel)⟩
def lw_privs_5 : List (MethodName × Nat) := [(⟨"ByTheThumbsModel", "refusesSong", "(II)I"⟩, 49), (⟨"ByTheThumbsModel", "goSong", "(II)V"⟩, 49), (⟨"ByTheThumbsModel", "refusesFree", "(I)I"⟩, 49), (⟨"ByTheThumbsModel", "goFree", "(I)V"⟩, 49), (⟨"ByTheThumbsModel", "readAct", "(I)V"⟩, 49), (⟨"ByTheThumbsModel", "act", "(III)Z"⟩, 49), (⟨"ByTheThumbsModel", "those", "([II)I"⟩, 49), (⟨"ByTheThumbsModel", "tryFight", "([III)I"⟩, 49), (⟨"ByTheThumbsModel", "goCard", "(IIIIII)V"⟩, 49), (⟨"ByTheThumbsModel", "goCareer", "(III)V"⟩, 49), (⟨"ByTheThumbsModel", "hiresOf", "(I)I"⟩, 49), (⟨"ByTheThumbsModel", "favoursOf", "(I)I"⟩, 49), (⟨"ByTheThumbsModel", "countOrders", "(II)I"⟩, 49), (⟨"ByTheThumbsModel", "canCome", "(IIII)Z"⟩, 49), (⟨"ByTheThumbsModel", "tellPart", "(JJ)V"⟩, 49), (⟨"ByTheThumbsModel", "fitting", "()I"⟩, 49)]
theorem lw_r5 : ∀ q ∈ lw_privs_5, lw_okq q := List.forall_mem_cons.mpr ⟨lw_p64, List.forall_mem_cons.mpr ⟨lw_p65, List.forall_mem_cons.mpr ⟨lw_p66, List.forall_mem_cons.mpr ⟨lw_p67, List.forall_mem_cons.mpr ⟨lw_p68, List.forall_mem_cons.mpr ⟨lw_p69, List.forall_mem_cons.mpr ⟨lw_p70, List.forall_mem_cons.mpr ⟨lw_p71, List.forall_mem_cons.mpr ⟨lw_p72, List.forall_mem_cons.mpr ⟨lw_p73, List.forall_mem_cons.mpr ⟨lw_p74, List.forall_mem_cons.mpr ⟨lw_p75, List.forall_mem_cons.mpr ⟨lw_p76, List.forall_mem_cons.mpr ⟨lw_p77, List.forall_mem_cons.mpr ⟨lw_p78, List.forall_mem_cons.mpr ⟨lw_p79, fun _ h => absurd h List.not_mem_nil⟩⟩⟩⟩⟩⟩⟩⟩⟩⟩⟩⟩⟩⟩⟩⟩
theorem lw_p80 : lw_okq (⟨"ByTheThumbsModel", "fits", "(III)Z"⟩, 49) := ⟨⟨by decide +kernel, by decide +kernel⟩, List.mem_of_getElem? (i := 1151) (by decide +kernel), List.mem_of_getElem? (i := 1728) (by decide +kernel), List.mem_of_getElem? (i := 1729) (by decide +kernel)⟩
theorem lw_p81 : lw_okq (⟨"ByTheThumbsModel", "winsFirst", "(II)Z"⟩, 49) := ⟨⟨by decide +kernel, by decide +kernel⟩, List.mem_of_getElem? (i := 1151) (by decide +kernel), List.mem_of_getElem? (i := 1750) (by decide +kernel), List.mem_of_getElem? (i := 1751) (by decide +kernel)⟩
theorem lw_p82 : lw_okq (⟨"ByTheThumbsModel", "draw", "(I)I"⟩, 49) := ⟨⟨by decide +kernel, by decide +kernel⟩, List.mem_of_getElem? (i := 1151) (by decide +kernel), List.mem_of_getElem? (i := 1758) (by decide +kernel), List.mem_of_getElem? (i := 1759) (by decide +kernel)⟩
def lw_privs_6 : List (MethodName × Nat) := [(⟨"ByTheThumbsModel", "fits", "(III)Z"⟩, 49), (⟨"ByTheThumbsModel", "winsFirst", "(II)Z"⟩, 49), (⟨"ByTheThumbsModel", "draw", "(I)I"⟩, 49)]
theorem lw_r6 : ∀ q ∈ lw_privs_6, lw_okq q := List.forall_mem_cons.mpr ⟨lw_p80, List.forall_mem_cons.mpr ⟨lw_p81, List.forall_mem_cons.mpr ⟨lw_p82, fun _ h => absurd h List.not_mem_nil⟩⟩⟩
def lw_privs : List (MethodName × Nat) := lw_privs_1 ++ (lw_privs_2 ++ (lw_privs_3 ++ (lw_privs_4 ++ (lw_privs_5 ++ (lw_privs_6)))))
def lw_tbl : List Cond := k2_sels lw_privs ++ tables_1
theorem lw_privs_ok : ∀ q ∈ lw_privs, lw_okq q := by
  show ∀ q ∈ lw_privs_1 ++ (lw_privs_2 ++ (lw_privs_3 ++ (lw_privs_4 ++ (lw_privs_5 ++ (lw_privs_6))))), lw_okq q
  exact List.forall_mem_append.mpr ⟨lw_r1, List.forall_mem_append.mpr ⟨lw_r2, List.forall_mem_append.mpr ⟨lw_r3, List.forall_mem_append.mpr ⟨lw_r4, List.forall_mem_append.mpr ⟨lw_r5, lw_r6⟩⟩⟩⟩⟩
end
section
def RX0 : String := "ByTheThumbs$Arena"
def TX0 : u_T := fun k => match k with
  | 0 => ("ByTheThumbs$Arena", "roster", "LByTheThumbs$Lines;", true)
  | 1 => ("ByTheThumbs$Arena", "crowd", "LByTheThumbs$Crowd;", true)
  | 2 => ("ByTheThumbs$Arena", "rule", "LByTheThumbs$Rule;", false)
  | 3 => ("ByTheThumbs$Arena", "spareRule", "LByTheThumbs$Rule;", false)
  | _ => ("ByTheThumbs$Arena", "sword", "I", false)
def tyX0 : Nat → FieldType := fun k => match k with
  | 0 => .object "ByTheThumbs$Lines"
  | 1 => .object "ByTheThumbs$Crowd"
  | 2 => .object "ByTheThumbs$Rule"
  | 3 => .object "ByTheThumbs$Rule"
  | _ => .int
abbrev wsX00 : List Cond := u_ws RX0 TX0 5
theorem nmX0 : ∀ a, a < 5 → ∀ b, b < 5 → a ≠ b → (TX0 a).2.1 ≠ (TX0 b).2.1 := by decide +kernel
theorem tyX0_ok : ∀ k, k < 5 → parseFieldDescriptor (TX0 k).2.2.1 = some (tyX0 k) := by decide +kernel
abbrev cX0_init : ByteArray := prog_2_method_1_code
def yX0_init : MethodName := ⟨RX0, "<init>", "(LByTheThumbs$Lines;LByTheThumbs$Crowd;)V"⟩
abbrev cX0_swapRules : ByteArray := prog_2_method_2_code
def yX0_swapRules : MethodName := ⟨RX0, "swapRules", "()V"⟩
abbrev cX0_ableBits : ByteArray := prog_2_method_3_code
def yX0_ableBits : MethodName := ⟨RX0, "ableBits", "(LByTheThumbs$State;)I"⟩
abbrev cX0_firstWins : ByteArray := prog_2_method_4_code
def yX0_firstWins : MethodName := ⟨RX0, "firstWins", "(LByTheThumbs$Rule;LByTheThumbs$State;II)Z"⟩
abbrev cX0_rulesDiffer : ByteArray := prog_2_method_5_code
def yX0_rulesDiffer : MethodName := ⟨RX0, "rulesDiffer", "(LByTheThumbs$State;II)Z"⟩
abbrev cX0_hindrance : ByteArray := prog_2_method_6_code
def yX0_hindrance : MethodName := ⟨RX0, "hindrance", "(LByTheThumbs$State;II)I"⟩
abbrev cX0_meet : ByteArray := prog_2_method_7_code
def yX0_meet : MethodName := ⟨RX0, "meet", "(LByTheThumbs$State;II)I"⟩
abbrev cX0_payHire : ByteArray := prog_2_method_8_code
def yX0_payHire : MethodName := ⟨RX0, "payHire", "(LByTheThumbs$State;I)V"⟩
abbrev cX0_excite : ByteArray := prog_2_method_9_code
def yX0_excite : MethodName := ⟨RX0, "excite", "(LByTheThumbs$State;II)V"⟩
abbrev cX0_judge : ByteArray := prog_2_method_10_code
def yX0_judge : MethodName := ⟨RX0, "judge", "(LByTheThumbs$State;I)V"⟩
abbrev cX0_handSword : ByteArray := prog_2_method_11_code
def yX0_handSword : MethodName := ⟨RX0, "handSword", "(LByTheThumbs$State;I)V"⟩
abbrev cX0_pass : ByteArray := prog_2_method_12_code
def yX0_pass : MethodName := ⟨RX0, "pass", "(LByTheThumbs$State;I)I"⟩
abbrev cX0_sing : ByteArray := prog_2_method_13_code
def yX0_sing : MethodName := ⟨RX0, "sing", "(LByTheThumbs$State;II)I"⟩
abbrev cX0_buyFree : ByteArray := prog_2_method_14_code
def yX0_buyFree : MethodName := ⟨RX0, "buyFree", "(LByTheThumbs$State;I)I"⟩
def RX1 : String := "ByTheThumbs$Crowd"
def TX1 : u_T := fun k => match k with
  | 0 => ("ByTheThumbs$Crowd", "seats", "LByTheThumbs$Lines;", true)
  | _ => ("ByTheThumbs$Crowd", "leastSpared", "I", false)
def tyX1 : Nat → FieldType := fun k => match k with
  | 0 => .object "ByTheThumbs$Lines"
  | _ => .int
abbrev wsX10 : List Cond := u_ws RX1 TX1 2
theorem nmX1 : ∀ a, a < 2 → ∀ b, b < 2 → a ≠ b → (TX1 a).2.1 ≠ (TX1 b).2.1 := by decide +kernel
theorem tyX1_ok : ∀ k, k < 2 → parseFieldDescriptor (TX1 k).2.2.1 = some (tyX1 k) := by decide +kernel
abbrev cX1_init : ByteArray := prog_3_method_1_code
def yX1_init : MethodName := ⟨RX1, "<init>", "()V"⟩
abbrev cX1_enter : ByteArray := prog_3_method_2_code
def yX1_enter : MethodName := ⟨RX1, "enter", "()I"⟩
abbrev cX1_spares : ByteArray := prog_3_method_3_code
def yX1_spares : MethodName := ⟨RX1, "spares", "(I)Z"⟩
abbrev cX1_up : ByteArray := prog_3_method_4_code
def yX1_up : MethodName := ⟨RX1, "up", "(III)I"⟩
abbrev cX1_sparesIf : ByteArray := prog_3_method_5_code
def yX1_sparesIf : MethodName := ⟨RX1, "sparesIf", "(III)Z"⟩
abbrev cX1_fewestToWin : ByteArray := prog_3_method_6_code
def yX1_fewestToWin : MethodName := ⟨RX1, "fewestToWin", "(I)I"⟩
abbrev cX1_tipping : ByteArray := prog_3_method_7_code
def yX1_tipping : MethodName := ⟨RX1, "tipping", "(I)I"⟩
def RX2 : String := "ByTheThumbs$Hearsay"
def TX2 : u_T := fun k => match k with
  | 0 => ("ByTheThumbs$Hearsay", "kinds", "[I", true)
  | 1 => ("ByTheThumbs$Hearsay", "values", "[I", true)
  | _ => ("ByTheThumbs$Hearsay", "size", "I", false)
def tyX2 : Nat → FieldType := fun k => match k with
  | 0 => .array .int
  | 1 => .array .int
  | _ => .int
abbrev wsX20 : List Cond := u_ws RX2 TX2 3
theorem nmX2 : ∀ a, a < 3 → ∀ b, b < 3 → a ≠ b → (TX2 a).2.1 ≠ (TX2 b).2.1 := by decide +kernel
theorem tyX2_ok : ∀ k, k < 3 → parseFieldDescriptor (TX2 k).2.2.1 = some (tyX2 k) := by decide +kernel
abbrev cX2_init : ByteArray := prog_4_method_1_code
def yX2_init : MethodName := ⟨RX2, "<init>", "()V"⟩
abbrev cX2_add : ByteArray := prog_4_method_2_code
def yX2_add : MethodName := ⟨RX2, "add", "(II)Z"⟩
abbrev cX2_canBe : ByteArray := prog_4_method_3_code
def yX2_canBe : MethodName := ⟨RX2, "canBe", "(II)Z"⟩
abbrev cX2_fitting : ByteArray := prog_4_method_4_code
def yX2_fitting : MethodName := ⟨RX2, "fitting", "(LByTheThumbs$Lines;LByTheThumbs$State;)I"⟩
abbrev cX2_fitsAll : ByteArray := prog_4_method_5_code
def yX2_fitsAll : MethodName := ⟨RX2, "fitsAll", "(LByTheThumbs$Lines;LByTheThumbs$State;I)Z"⟩
abbrev cX2_fitsOne : ByteArray := prog_4_method_6_code
def yX2_fitsOne : MethodName := ⟨RX2, "fitsOne", "(LByTheThumbs$Lines;LByTheThumbs$State;II)Z"⟩
abbrev cX2_countHiredFor : ByteArray := prog_4_method_7_code
def yX2_countHiredFor : MethodName := ⟨RX2, "countHiredFor", "(ILByTheThumbs$Lines;I)I"⟩
def RX3 : String := "ByTheThumbs$Lines"
def TX3 : u_T := fun k => match k with
  | 0 => ("ByTheThumbs$Lines", "form", "Ljava/lang/String;", true)
  | 1 => ("ByTheThumbs$Lines", "mostSigns", "I", true)
  | 2 => ("ByTheThumbs$Lines", "columns", "[[I", true)
  | 3 => ("ByTheThumbs$Lines", "count", "I", false)
  | _ => ("ByTheThumbs$Lines", "fresh", "I", false)
def tyX3 : Nat → FieldType := fun k => match k with
  | 0 => .object "java/lang/String"
  | 1 => .int
  | 2 => .array (.array .int)
  | 3 => .int
  | _ => .int
abbrev wsX30 : List Cond := u_ws RX3 TX3 5
theorem nmX3 : ∀ a, a < 5 → ∀ b, b < 5 → a ≠ b → (TX3 a).2.1 ≠ (TX3 b).2.1 := by decide +kernel
theorem tyX3_ok : ∀ k, k < 5 → parseFieldDescriptor (TX3 k).2.2.1 = some (tyX3 k) := by decide +kernel
abbrev cX3_init : ByteArray := prog_5_method_1_code
def yX3_init : MethodName := ⟨RX3, "<init>", "(Ljava/lang/String;I)V"⟩
abbrev cX3_has : ByteArray := prog_5_method_2_code
def yX3_has : MethodName := ⟨RX3, "has", "(I)Z"⟩
abbrev cX3_of : ByteArray := prog_5_method_3_code
def yX3_of : MethodName := ⟨RX3, "of", "(II)I"⟩
abbrev cX3_sum : ByteArray := prog_5_method_4_code
def yX3_sum : MethodName := ⟨RX3, "sum", "(II)I"⟩
abbrev cX3_read : ByteArray := prog_5_method_5_code
def yX3_read : MethodName := ⟨RX3, "read", "(LByTheThumbs$Text;)I"⟩
abbrev cX3_enter : ByteArray := prog_5_method_6_code
def yX3_enter : MethodName := ⟨RX3, "enter", "()I"⟩
abbrev cX3_readLine : ByteArray := prog_5_method_7_code
def yX3_readLine : MethodName := ⟨RX3, "readLine", "(LByTheThumbs$Text;I)Z"⟩
abbrev cX3_readPart : ByteArray := prog_5_method_8_code
def yX3_readPart : MethodName := ⟨RX3, "readPart", "(LByTheThumbs$Text;C)I"⟩
abbrev cX3_readArms : ByteArray := prog_5_method_9_code
def yX3_readArms : MethodName := ⟨RX3, "readArms", "(LByTheThumbs$Text;)I"⟩
abbrev cX3_armsOf : ByteArray := prog_5_method_10_code
def yX3_armsOf : MethodName := ⟨RX3, "armsOf", "(I)I"⟩
abbrev cX3_readAboveNothing : ByteArray := prog_5_method_11_code
def yX3_readAboveNothing : MethodName := ⟨RX3, "readAboveNothing", "(LByTheThumbs$Text;)I"⟩
def RX4 : String := "ByTheThumbs$Past"
def TX4 : u_T := fun k => match k with
  | 0 => ("ByTheThumbs$Past", "states", "[LByTheThumbs$State;", true)
  | 1 => ("ByTheThumbs$Past", "shelves", "[LByTheThumbs$State;", true)
  | 2 => ("ByTheThumbs$Past", "first", "I", false)
  | 3 => ("ByTheThumbs$Past", "size", "I", false)
  | _ => ("ByTheThumbs$Past", "filled", "I", false)
def tyX4 : Nat → FieldType := fun k => match k with
  | 0 => .array (.object "ByTheThumbs$State")
  | 1 => .array (.object "ByTheThumbs$State")
  | 2 => .int
  | 3 => .int
  | _ => .int
abbrev wsX40 : List Cond := u_ws RX4 TX4 5
theorem nmX4 : ∀ a, a < 5 → ∀ b, b < 5 → a ≠ b → (TX4 a).2.1 ≠ (TX4 b).2.1 := by decide +kernel
theorem tyX4_ok : ∀ k, k < 5 → parseFieldDescriptor (TX4 k).2.2.1 = some (tyX4 k) := by decide +kernel
abbrev cX4_init : ByteArray := prog_6_method_1_code
def yX4_init : MethodName := ⟨RX4, "<init>", "()V"⟩
abbrev cX4_clear : ByteArray := prog_6_method_2_code
def yX4_clear : MethodName := ⟨RX4, "clear", "()V"⟩
abbrev cX4_push : ByteArray := prog_6_method_3_code
def yX4_push : MethodName := ⟨RX4, "push", "(LByTheThumbs$State;)V"⟩
abbrev cX4_pop : ByteArray := prog_6_method_4_code
def yX4_pop : MethodName := ⟨RX4, "pop", "(LByTheThumbs$State;)V"⟩
abbrev cX4_shelve : ByteArray := prog_6_method_5_code
def yX4_shelve : MethodName := ⟨RX4, "shelve", "(ILByTheThumbs$State;)Z"⟩
abbrev cX4_fetch : ByteArray := prog_6_method_6_code
def yX4_fetch : MethodName := ⟨RX4, "fetch", "(ILByTheThumbs$State;)Z"⟩
def RX5 : String := "ByTheThumbs$Row"
def TX5 : u_T := fun k => match k with
  | 0 => ("ByTheThumbs$Row", "numbers", "[J", true)
  | _ => ("ByTheThumbs$Row", "size", "I", false)
def tyX5 : Nat → FieldType := fun k => match k with
  | 0 => .array .long
  | _ => .int
abbrev wsX50 : List Cond := u_ws RX5 TX5 2
theorem nmX5 : ∀ a, a < 2 → ∀ b, b < 2 → a ≠ b → (TX5 a).2.1 ≠ (TX5 b).2.1 := by decide +kernel
theorem tyX5_ok : ∀ k, k < 2 → parseFieldDescriptor (TX5 k).2.2.1 = some (tyX5 k) := by decide +kernel
abbrev cX5_init : ByteArray := prog_7_method_1_code
def yX5_init : MethodName := ⟨RX5, "<init>", "()V"⟩
abbrev cX5_clear : ByteArray := prog_7_method_2_code
def yX5_clear : MethodName := ⟨RX5, "clear", "()V"⟩
abbrev cX5_add : ByteArray := prog_7_method_3_code
def yX5_add : MethodName := ⟨RX5, "add", "(J)V"⟩
abbrev cX5_addFraction : ByteArray := prog_7_method_4_code
def yX5_addFraction : MethodName := ⟨RX5, "addFraction", "(JJ)V"⟩
abbrev cX5_commonDivisor : ByteArray := prog_7_method_5_code
def yX5_commonDivisor : MethodName := ⟨RX5, "commonDivisor", "(JJ)J"⟩
def RX6 : String := "ByTheThumbs$Rule"
def TX6 : u_T := fun k => match k with
  | 0 => ("ByTheThumbs$Rule", "steps", "[I", true)
  | 1 => ("ByTheThumbs$Rule", "stack", "[I", true)
  | _ => ("ByTheThumbs$Rule", "size", "I", false)
def tyX6 : Nat → FieldType := fun k => match k with
  | 0 => .array .int
  | 1 => .array .int
  | _ => .int
abbrev wsX60 : List Cond := u_ws RX6 TX6 3
theorem nmX6 : ∀ a, a < 3 → ∀ b, b < 3 → a ≠ b → (TX6 a).2.1 ≠ (TX6 b).2.1 := by decide +kernel
theorem tyX6_ok : ∀ k, k < 3 → parseFieldDescriptor (TX6 k).2.2.1 = some (tyX6 k) := by decide +kernel
abbrev cX6_init : ByteArray := prog_8_method_1_code
def yX6_init : MethodName := ⟨RX6, "<init>", "()V"⟩
abbrev cX6_read : ByteArray := prog_8_method_2_code
def yX6_read : MethodName := ⟨RX6, "read", "(LByTheThumbs$Text;)I"⟩
abbrev cX6_step : ByteArray := prog_8_method_3_code
def yX6_step : MethodName := ⟨RX6, "step", "(I)V"⟩
abbrev cX6_readLevel : ByteArray := prog_8_method_4_code
def yX6_readLevel : MethodName := ⟨RX6, "readLevel", "(LByTheThumbs$Text;II)Z"⟩
abbrev cX6_levelOf : ByteArray := prog_8_method_5_code
def yX6_levelOf : MethodName := ⟨RX6, "levelOf", "(I)I"⟩
abbrev cX6_readSigned : ByteArray := prog_8_method_6_code
def yX6_readSigned : MethodName := ⟨RX6, "readSigned", "(LByTheThumbs$Text;I)Z"⟩
abbrev cX6_readThing : ByteArray := prog_8_method_7_code
def yX6_readThing : MethodName := ⟨RX6, "readThing", "(LByTheThumbs$Text;I)Z"⟩
abbrev cX6_isLetter : ByteArray := prog_8_method_8_code
def yX6_isLetter : MethodName := ⟨RX6, "isLetter", "(I)Z"⟩
abbrev cX6_value : ByteArray := prog_8_method_9_code
def yX6_value : MethodName := ⟨RX6, "value", "(LByTheThumbs$Lines;LByTheThumbs$State;II)I"⟩
abbrev cX6_letter : ByteArray := prog_8_method_10_code
def yX6_letter : MethodName := ⟨RX6, "letter", "(ILByTheThumbs$Lines;LByTheThumbs$State;II)I"⟩
abbrev cX6_joined : ByteArray := prog_8_method_11_code
def yX6_joined : MethodName := ⟨RX6, "joined", "(III)I"⟩
def RX7 : String := "ByTheThumbs$Search"
def TX7 : u_T := fun k => match k with
  | 0 => ("ByTheThumbs$Search", "arena", "LByTheThumbs$Arena;", true)
  | 1 => ("ByTheThumbs$Search", "states", "[LByTheThumbs$State;", true)
  | 2 => ("ByTheThumbs$Search", "dead", "[I", true)
  | 3 => ("ByTheThumbs$Search", "gain", "[I", true)
  | 4 => ("ByTheThumbs$Search", "turns", "[I", true)
  | 5 => ("ByTheThumbs$Search", "bestTurns", "[I", true)
  | 6 => ("ByTheThumbs$Search", "wanted", "I", false)
  | 7 => ("ByTheThumbs$Search", "fighter", "I", false)
  | 8 => ("ByTheThumbs$Search", "found", "Z", false)
  | 9 => ("ByTheThumbs$Search", "best", "I", false)
  | _ => ("ByTheThumbs$Search", "bestGain", "I", false)
def tyX7 : Nat → FieldType := fun k => match k with
  | 0 => .object "ByTheThumbs$Arena"
  | 1 => .array (.object "ByTheThumbs$State")
  | 2 => .array .int
  | 3 => .array .int
  | 4 => .array .int
  | 5 => .array .int
  | 6 => .int
  | 7 => .int
  | 8 => .boolean
  | 9 => .int
  | _ => .int
abbrev wsX70 : List Cond := u_ws RX7 TX7 11
theorem nmX7 : ∀ a, a < 11 → ∀ b, b < 11 → a ≠ b → (TX7 a).2.1 ≠ (TX7 b).2.1 := by decide +kernel
theorem tyX7_ok : ∀ k, k < 11 → parseFieldDescriptor (TX7 k).2.2.1 = some (tyX7 k) := by decide +kernel
abbrev cX7_init : ByteArray := prog_9_method_1_code
def yX7_init : MethodName := ⟨RX7, "<init>", "(LByTheThumbs$Arena;)V"⟩
abbrev cX7_enter : ByteArray := prog_9_method_2_code
def yX7_enter : MethodName := ⟨RX7, "enter", "(IIZI)V"⟩
abbrev cX7_leastDead : ByteArray := prog_9_method_3_code
def yX7_leastDead : MethodName := ⟨RX7, "leastDead", "(II)I"⟩
abbrev cX7_addPair : ByteArray := prog_9_method_4_code
def yX7_addPair : MethodName := ⟨RX7, "addPair", "(IIIII)V"⟩
abbrev cX7_mostFavour : ByteArray := prog_9_method_5_code
def yX7_mostFavour : MethodName := ⟨RX7, "mostFavour", "(LByTheThumbs$State;II)I"⟩
abbrev cX7_addFight : ByteArray := prog_9_method_6_code
def yX7_addFight : MethodName := ⟨RX7, "addFight", "(I)V"⟩
abbrev cX7_compare : ByteArray := prog_9_method_7_code
def yX7_compare : MethodName := ⟨RX7, "compare", "(II)V"⟩
def RX8 : String := "ByTheThumbs$State"
def TX8 : u_T := fun k => match k with
  | _ => ("ByTheThumbs$State", "cells", "[I", true)
def tyX8 : Nat → FieldType := fun k => match k with
  | _ => .array .int
abbrev wsX80 : List Cond := u_ws RX8 TX8 1
theorem nmX8 : ∀ a, a < 1 → ∀ b, b < 1 → a ≠ b → (TX8 a).2.1 ≠ (TX8 b).2.1 := by decide +kernel
theorem tyX8_ok : ∀ k, k < 1 → parseFieldDescriptor (TX8 k).2.2.1 = some (tyX8 k) := by decide +kernel
abbrev cX8_init : ByteArray := prog_10_method_1_code
def yX8_init : MethodName := ⟨RX8, "<init>", "()V"⟩
abbrev cX8_take : ByteArray := prog_10_method_2_code
def yX8_take : MethodName := ⟨RX8, "take", "(LByTheThumbs$State;)V"⟩
abbrev cX8_favour : ByteArray := prog_10_method_3_code
def yX8_favour : MethodName := ⟨RX8, "favour", "(I)I"⟩
abbrev cX8_hurt : ByteArray := prog_10_method_4_code
def yX8_hurt : MethodName := ⟨RX8, "hurt", "(I)I"⟩
abbrev cX8_fought : ByteArray := prog_10_method_5_code
def yX8_fought : MethodName := ⟨RX8, "fought", "(I)I"⟩
abbrev cX8_won : ByteArray := prog_10_method_6_code
def yX8_won : MethodName := ⟨RX8, "won", "(I)I"⟩
abbrev cX8_fate : ByteArray := prog_10_method_7_code
def yX8_fate : MethodName := ⟨RX8, "fate", "(I)I"⟩
abbrev cX8_means : ByteArray := prog_10_method_8_code
def yX8_means : MethodName := ⟨RX8, "means", "()I"⟩
abbrev cX8_isHere : ByteArray := prog_10_method_9_code
def yX8_isHere : MethodName := ⟨RX8, "isHere", "(I)Z"⟩
abbrev cX8_isDead : ByteArray := prog_10_method_10_code
def yX8_isDead : MethodName := ⟨RX8, "isDead", "(I)Z"⟩
abbrev cX8_canFight : ByteArray := prog_10_method_11_code
def yX8_canFight : MethodName := ⟨RX8, "canFight", "(I)Z"⟩
abbrev cX8_enter : ByteArray := prog_10_method_12_code
def yX8_enter : MethodName := ⟨RX8, "enter", "(II)V"⟩
abbrev cX8_like : ByteArray := prog_10_method_13_code
def yX8_like : MethodName := ⟨RX8, "like", "(II)V"⟩
abbrev cX8_pay : ByteArray := prog_10_method_14_code
def yX8_pay : MethodName := ⟨RX8, "pay", "(II)V"⟩
abbrev cX8_bits : ByteArray := prog_10_method_15_code
def yX8_bits : MethodName := ⟨RX8, "bits", "(II)I"⟩
abbrev cX8_favourOf : ByteArray := prog_10_method_16_code
def yX8_favourOf : MethodName := ⟨RX8, "favourOf", "(I)I"⟩
def RX9 : String := "ByTheThumbs$Text"
def TX9 : u_T := fun k => match k with
  | 0 => ("ByTheThumbs$Text", "signs", "[I", true)
  | 1 => ("ByTheThumbs$Text", "size", "I", false)
  | 2 => ("ByTheThumbs$Text", "at", "I", false)
  | _ => ("ByTheThumbs$Text", "limit", "I", false)
def tyX9 : Nat → FieldType := fun k => match k with
  | 0 => .array .int
  | 1 => .int
  | 2 => .int
  | _ => .int
abbrev wsX90 : List Cond := u_ws RX9 TX9 4
theorem nmX9 : ∀ a, a < 4 → ∀ b, b < 4 → a ≠ b → (TX9 a).2.1 ≠ (TX9 b).2.1 := by decide +kernel
theorem tyX9_ok : ∀ k, k < 4 → parseFieldDescriptor (TX9 k).2.2.1 = some (tyX9 k) := by decide +kernel
abbrev cX9_init : ByteArray := prog_11_method_1_code
def yX9_init : MethodName := ⟨RX9, "<init>", "()V"⟩
abbrev cX9_append : ByteArray := prog_11_method_2_code
def yX9_append : MethodName := ⟨RX9, "append", "(I)Z"⟩
abbrev cX9_cut : ByteArray := prog_11_method_3_code
def yX9_cut : MethodName := ⟨RX9, "cut", "(I)Z"⟩
abbrev cX9_clear : ByteArray := prog_11_method_4_code
def yX9_clear : MethodName := ⟨RX9, "clear", "()V"⟩
abbrev cX9_isEmpty : ByteArray := prog_11_method_5_code
def yX9_isEmpty : MethodName := ⟨RX9, "isEmpty", "()Z"⟩
abbrev cX9_put : ByteArray := prog_11_method_6_code
def yX9_put : MethodName := ⟨RX9, "put", "(Ljava/lang/String;)V"⟩
abbrev cX9_start : ByteArray := prog_11_method_7_code
def yX9_start : MethodName := ⟨RX9, "start", "(I)V"⟩
abbrev cX9_ended : ByteArray := prog_11_method_8_code
def yX9_ended : MethodName := ⟨RX9, "ended", "()Z"⟩
abbrev cX9_peek : ByteArray := prog_11_method_9_code
def yX9_peek : MethodName := ⟨RX9, "peek", "()I"⟩
abbrev cX9_next : ByteArray := prog_11_method_10_code
def yX9_next : MethodName := ⟨RX9, "next", "()I"⟩
abbrev cX9_take : ByteArray := prog_11_method_11_code
def yX9_take : MethodName := ⟨RX9, "take", "(I)Z"⟩
abbrev cX9_takeDigit : ByteArray := prog_11_method_12_code
def yX9_takeDigit : MethodName := ⟨RX9, "takeDigit", "(II)I"⟩
abbrev cX9_takeNumber : ByteArray := prog_11_method_13_code
def yX9_takeNumber : MethodName := ⟨RX9, "takeNumber", "(I)I"⟩
def RX10 : String := "ByTheThumbs$Wall"
def TX10 : u_T := fun k => match k with
  | 0 => ("ByTheThumbs$Wall", "above", "[I", true)
  | 1 => ("ByTheThumbs$Wall", "ordersOf", "[I", true)
  | 2 => ("ByTheThumbs$Wall", "ordersBehind", "[I", true)
  | 3 => ("ByTheThumbs$Wall", "fighters", "I", false)
  | _ => ("ByTheThumbs$Wall", "scores", "I", false)
def tyX10 : Nat → FieldType := fun k => match k with
  | 0 => .array .int
  | 1 => .array .int
  | 2 => .array .int
  | 3 => .int
  | _ => .int
abbrev wsX100 : List Cond := u_ws RX10 TX10 5
theorem nmX10 : ∀ a, a < 5 → ∀ b, b < 5 → a ≠ b → (TX10 a).2.1 ≠ (TX10 b).2.1 := by decide +kernel
theorem tyX10_ok : ∀ k, k < 5 → parseFieldDescriptor (TX10 k).2.2.1 = some (tyX10 k) := by decide +kernel
abbrev cX10_init : ByteArray := prog_12_method_1_code
def yX10_init : MethodName := ⟨RX10, "<init>", "()V"⟩
abbrev cX10_clear : ByteArray := prog_12_method_2_code
def yX10_clear : MethodName := ⟨RX10, "clear", "()V"⟩
abbrev cX10_isAbove : ByteArray := prog_12_method_3_code
def yX10_isAbove : MethodName := ⟨RX10, "isAbove", "(II)Z"⟩
abbrev cX10_scratch : ByteArray := prog_12_method_4_code
def yX10_scratch : MethodName := ⟨RX10, "scratch", "(II)V"⟩
abbrev cX10_countBelow : ByteArray := prog_12_method_5_code
def yX10_countBelow : MethodName := ⟨RX10, "countBelow", "(I)I"⟩
abbrev cX10_canFollow : ByteArray := prog_12_method_6_code
def yX10_canFollow : MethodName := ⟨RX10, "canFollow", "(II)Z"⟩
abbrev cX10_leastNext : ByteArray := prog_12_method_7_code
def yX10_leastNext : MethodName := ⟨RX10, "leastNext", "(I)I"⟩
abbrev cX10_tally : ByteArray := prog_12_method_8_code
def yX10_tally : MethodName := ⟨RX10, "tally", "(I)I"⟩
abbrev cX10_ordersAt : ByteArray := prog_12_method_9_code
def yX10_ordersAt : MethodName := ⟨RX10, "ordersAt", "(II)I"⟩
abbrev cX10_ordersWithAbove : ByteArray := prog_12_method_10_code
def yX10_ordersWithAbove : MethodName := ⟨RX10, "ordersWithAbove", "(II)I"⟩
def RX11 : String := "ByTheThumbs"
def TX11 : u_T := fun k => match k with
  | 0 => ("ByTheThumbs", "text", "LByTheThumbs$Text;", true)
  | 1 => ("ByTheThumbs", "told", "LByTheThumbs$Row;", true)
  | 2 => ("ByTheThumbs", "roster", "LByTheThumbs$Lines;", true)
  | 3 => ("ByTheThumbs", "crowd", "LByTheThumbs$Crowd;", true)
  | 4 => ("ByTheThumbs", "arena", "LByTheThumbs$Arena;", true)
  | 5 => ("ByTheThumbs", "now", "LByTheThumbs$State;", true)
  | 6 => ("ByTheThumbs", "before", "LByTheThumbs$State;", true)
  | 7 => ("ByTheThumbs", "trial", "LByTheThumbs$State;", true)
  | 8 => ("ByTheThumbs", "past", "LByTheThumbs$Past;", true)
  | 9 => ("ByTheThumbs", "search", "LByTheThumbs$Search;", true)
  | 10 => ("ByTheThumbs", "wall", "LByTheThumbs$Wall;", true)
  | _ => ("ByTheThumbs", "hearsay", "LByTheThumbs$Hearsay;", true)
def tyX11 : Nat → FieldType := fun k => match k with
  | 0 => .object "ByTheThumbs$Text"
  | 1 => .object "ByTheThumbs$Row"
  | 2 => .object "ByTheThumbs$Lines"
  | 3 => .object "ByTheThumbs$Crowd"
  | 4 => .object "ByTheThumbs$Arena"
  | 5 => .object "ByTheThumbs$State"
  | 6 => .object "ByTheThumbs$State"
  | 7 => .object "ByTheThumbs$State"
  | 8 => .object "ByTheThumbs$Past"
  | 9 => .object "ByTheThumbs$Search"
  | 10 => .object "ByTheThumbs$Wall"
  | _ => .object "ByTheThumbs$Hearsay"
abbrev wsX110 : List Cond := u_ws RX11 TX11 12
theorem nmX11 : ∀ a, a < 12 → ∀ b, b < 12 → a ≠ b → (TX11 a).2.1 ≠ (TX11 b).2.1 := by decide +kernel
theorem tyX11_ok : ∀ k, k < 12 → parseFieldDescriptor (TX11 k).2.2.1 = some (tyX11 k) := by decide +kernel
abbrev cX11_init : ByteArray := prog_1_method_1_code
def yX11_init : MethodName := ⟨RX11, "<init>", "()V"⟩
abbrev cX11_sign : ByteArray := prog_1_method_2_code
def yX11_sign : MethodName := ⟨RX11, "sign", "(I)I"⟩
abbrev cX11_end : ByteArray := prog_1_method_3_code
def yX11_end : MethodName := ⟨RX11, "end", "(I)Z"⟩
abbrev cX11_fighters : ByteArray := prog_1_method_4_code
def yX11_fighters : MethodName := ⟨RX11, "fighters", "()I"⟩
abbrev cX11_seats : ByteArray := prog_1_method_5_code
def yX11_seats : MethodName := ⟨RX11, "seats", "()I"⟩
abbrev cX11_rule : ByteArray := prog_1_method_6_code
def yX11_rule : MethodName := ⟨RX11, "rule", "()I"⟩
abbrev cX11_fighter : ByteArray := prog_1_method_7_code
def yX11_fighter : MethodName := ⟨RX11, "fighter", "(II)I"⟩
abbrev cX11_seat : ByteArray := prog_1_method_8_code
def yX11_seat : MethodName := ⟨RX11, "seat", "(II)I"⟩
abbrev cX11_purse : ByteArray := prog_1_method_9_code
def yX11_purse : MethodName := ⟨RX11, "purse", "(I)I"⟩
abbrev cX11_strength : ByteArray := prog_1_method_10_code
def yX11_strength : MethodName := ⟨RX11, "strength", "(II)I"⟩
abbrev cX11_set : ByteArray := prog_1_method_11_code
def yX11_set : MethodName := ⟨RX11, "set", "(II)I"⟩
abbrev cX11_sheet : ByteArray := prog_1_method_12_code
def yX11_sheet : MethodName := ⟨RX11, "sheet", "(IIII)I"⟩
abbrev cX11_sheetEntry : ByteArray := prog_1_method_13_code
def yX11_sheetEntry : MethodName := ⟨RX11, "sheetEntry", "(II)I"⟩
abbrev cX11_isOwner : ByteArray := prog_1_method_14_code
def yX11_isOwner : MethodName := ⟨RX11, "isOwner", "(I)Z"⟩
abbrev cX11_fight : ByteArray := prog_1_method_15_code
def yX11_fight : MethodName := ⟨RX11, "fight", "(II)I"⟩
abbrev cX11_days : ByteArray := prog_1_method_16_code
def yX11_days : MethodName := ⟨RX11, "days", "(I)I"⟩
abbrev cX11_song : ByteArray := prog_1_method_17_code
def yX11_song : MethodName := ⟨RX11, "song", "(II)I"⟩
abbrev cX11_frees : ByteArray := prog_1_method_18_code
def yX11_frees : MethodName := ⟨RX11, "frees", "(I)I"⟩
abbrev cX11_games : ByteArray := prog_1_method_19_code
def yX11_games : MethodName := ⟨RX11, "games", "()I"⟩
abbrev cX11_undo : ByteArray := prog_1_method_20_code
def yX11_undo : MethodName := ⟨RX11, "undo", "()I"⟩
abbrev cX11_remembered : ByteArray := prog_1_method_21_code
def yX11_remembered : MethodName := ⟨RX11, "remembered", "(I)I"⟩
abbrev cX11_wrongAct : ByteArray := prog_1_method_22_code
def yX11_wrongAct : MethodName := ⟨RX11, "wrongAct", "()I"⟩
abbrev cX11_playActs : ByteArray := prog_1_method_23_code
def yX11_playActs : MethodName := ⟨RX11, "playActs", "()I"⟩
abbrev cX11_playAct : ByteArray := prog_1_method_24_code
def yX11_playAct : MethodName := ⟨RX11, "playAct", "()I"⟩
abbrev cX11_moreSince : ByteArray := prog_1_method_25_code
def yX11_moreSince : MethodName := ⟨RX11, "moreSince", "(LByTheThumbs$State;LByTheThumbs$State;I)I"⟩
abbrev cX11_thumbs : ByteArray := prog_1_method_26_code
def yX11_thumbs : MethodName := ⟨RX11, "thumbs", "(I)I"⟩
abbrev cX11_mercy : ByteArray := prog_1_method_27_code
def yX11_mercy : MethodName := ⟨RX11, "mercy", "()I"⟩
abbrev cX11_claque : ByteArray := prog_1_method_28_code
def yX11_claque : MethodName := ⟨RX11, "claque", "(I)I"⟩
abbrev cX11_tips : ByteArray := prog_1_method_29_code
def yX11_tips : MethodName := ⟨RX11, "tips", "(I)I"⟩
abbrev cX11_would : ByteArray := prog_1_method_30_code
def yX11_would : MethodName := ⟨RX11, "would", "(II)I"⟩
abbrev cX11_beats : ByteArray := prog_1_method_31_code
def yX11_beats : MethodName := ⟨RX11, "beats", "(I)I"⟩
abbrev cX11_card : ByteArray := prog_1_method_32_code
def yX11_card : MethodName := ⟨RX11, "card", "(I)I"⟩
abbrev cX11_even : ByteArray := prog_1_method_33_code
def yX11_even : MethodName := ⟨RX11, "even", "()I"⟩
abbrev cX11_career : ByteArray := prog_1_method_34_code
def yX11_career : MethodName := ⟨RX11, "career", "(II)I"⟩
abbrev cX11_sword : ByteArray := prog_1_method_35_code
def yX11_sword : MethodName := ⟨RX11, "sword", "(II)I"⟩
abbrev cX11_worth : ByteArray := prog_1_method_36_code
def yX11_worth : MethodName := ⟨RX11, "worth", "(I)I"⟩
abbrev cX11_hires : ByteArray := prog_1_method_37_code
def yX11_hires : MethodName := ⟨RX11, "hires", "(I)I"⟩
abbrev cX11_isBetterHire : ByteArray := prog_1_method_38_code
def yX11_isBetterHire : MethodName := ⟨RX11, "isBetterHire", "(II)Z"⟩
abbrev cX11_foresee : ByteArray := prog_1_method_39_code
def yX11_foresee : MethodName := ⟨RX11, "foresee", "(II)I"⟩
abbrev cX11_foreseenGain : ByteArray := prog_1_method_40_code
def yX11_foreseenGain : MethodName := ⟨RX11, "foreseenGain", "(II)I"⟩
abbrev cX11_score : ByteArray := prog_1_method_41_code
def yX11_score : MethodName := ⟨RX11, "score", "(II)I"⟩
abbrev cX11_wash : ByteArray := prog_1_method_42_code
def yX11_wash : MethodName := ⟨RX11, "wash", "()I"⟩
abbrev cX11_ranks : ByteArray := prog_1_method_43_code
def yX11_ranks : MethodName := ⟨RX11, "ranks", "()I"⟩
abbrev cX11_stands : ByteArray := prog_1_method_44_code
def yX11_stands : MethodName := ⟨RX11, "stands", "(II)I"⟩
abbrev cX11_places : ByteArray := prog_1_method_45_code
def yX11_places : MethodName := ⟨RX11, "places", "(I)I"⟩
abbrev cX11_watch : ByteArray := prog_1_method_46_code
def yX11_watch : MethodName := ⟨RX11, "watch", "()I"⟩
abbrev cX11_odds : ByteArray := prog_1_method_47_code
def yX11_odds : MethodName := ⟨RX11, "odds", "(III)I"⟩
abbrev cX11_till : ByteArray := prog_1_method_48_code
def yX11_till : MethodName := ⟨RX11, "till", "(III)I"⟩
abbrev cX11_heard : ByteArray := prog_1_method_49_code
def yX11_heard : MethodName := ⟨RX11, "heard", "(II)I"⟩
abbrev cX11_forget : ByteArray := prog_1_method_50_code
def yX11_forget : MethodName := ⟨RX11, "forget", "()I"⟩
abbrev cX11_fits : ByteArray := prog_1_method_51_code
def yX11_fits : MethodName := ⟨RX11, "fits", "()I"⟩
abbrev cX11_ask : ByteArray := prog_1_method_52_code
def yX11_ask : MethodName := ⟨RX11, "ask", "()I"⟩
abbrev cX11_power : ByteArray := prog_1_method_53_code
def yX11_power : MethodName := ⟨RX11, "power", "(JI)J"⟩
abbrev cX11_ways : ByteArray := prog_1_method_54_code
def yX11_ways : MethodName := ⟨RX11, "ways", "(II)J"⟩
abbrev cX11_rests : ByteArray := prog_1_method_55_code
def yX11_rests : MethodName := ⟨RX11, "rests", "(I)I"⟩
abbrev cX11_law : ByteArray := prog_1_method_56_code
def yX11_law : MethodName := ⟨RX11, "law", "()I"⟩
abbrev cX11_years : ByteArray := prog_1_method_57_code
def yX11_years : MethodName := ⟨RX11, "years", "(II)I"⟩
abbrev cX11_nextDraw : ByteArray := prog_1_method_58_code
def yX11_nextDraw : MethodName := ⟨RX11, "nextDraw", "(I)I"⟩
abbrev cX11_share : ByteArray := prog_1_method_59_code
def yX11_share : MethodName := ⟨RX11, "share", "(III)I"⟩
abbrev cX11_isBestBreak : ByteArray := prog_1_method_60_code
def yX11_isBestBreak : MethodName := ⟨RX11, "isBestBreak", "(III)Z"⟩
abbrev cX11_keep : ByteArray := prog_1_method_61_code
def yX11_keep : MethodName := ⟨RX11, "keep", "(I)Z"⟩
abbrev cX11_again : ByteArray := prog_1_method_62_code
def yX11_again : MethodName := ⟨RX11, "again", "(I)Z"⟩
abbrev cX11_count : ByteArray := prog_1_method_63_code
def yX11_count : MethodName := ⟨RX11, "count", "(I)I"⟩
abbrev cX11_row : ByteArray := prog_1_method_64_code
def yX11_row : MethodName := ⟨RX11, "row", "(I)J"⟩
def RX12 : String := "ByTheThumbsModel"
def TX12 : u_T := fun k => match k with
  | 0 => ("ByTheThumbsModel", "now", "[I", true)
  | 1 => ("ByTheThumbsModel", "men", "I", false)
  | 2 => ("ByTheThumbsModel", "man", "[I", true)
  | 3 => ("ByTheThumbsModel", "seats", "I", false)
  | 4 => ("ByTheThumbsModel", "seat", "[I", true)
  | 5 => ("ByTheThumbsModel", "sword", "I", false)
  | 6 => ("ByTheThumbsModel", "text", "[B", true)
  | 7 => ("ByTheThumbsModel", "typed", "I", false)
  | 8 => ("ByTheThumbsModel", "row", "[J", true)
  | 9 => ("ByTheThumbsModel", "rowMany", "I", false)
  | 10 => ("ByTheThumbsModel", "thrown", "I", false)
  | 11 => ("ByTheThumbsModel", "read", "[B", false)
  | 12 => ("ByTheThumbsModel", "length", "I", false)
  | 13 => ("ByTheThumbsModel", "top", "I", false)
  | 14 => ("ByTheThumbsModel", "at", "I", false)
  | 15 => ("ByTheThumbsModel", "wrong", "I", false)
  | 16 => ("ByTheThumbsModel", "comes", "[I", true)
  | 17 => ("ByTheThumbsModel", "rule", "[B", false)
  | 18 => ("ByTheThumbsModel", "otherRule", "[B", false)
  | 19 => ("ByTheThumbsModel", "ruleSize", "I", false)
  | 20 => ("ByTheThumbsModel", "isAsked", "Z", false)
  | 21 => ("ByTheThumbsModel", "asked", "[I", true)
  | 22 => ("ByTheThumbsModel", "undos", "[I", true)
  | 23 => ("ByTheThumbsModel", "undoMany", "I", false)
  | 24 => ("ByTheThumbsModel", "aside", "[I", true)
  | 25 => ("ByTheThumbsModel", "then", "[I", true)
  | 26 => ("ByTheThumbsModel", "isDead", "Z", false)
  | 27 => ("ByTheThumbsModel", "acts", "[I", true)
  | 28 => ("ByTheThumbsModel", "favourMore", "I", false)
  | 29 => ("ByTheThumbsModel", "wasDead", "Z", false)
  | 30 => ("ByTheThumbsModel", "line", "[I", true)
  | 31 => ("ByTheThumbsModel", "bestLine", "[I", true)
  | 32 => ("ByTheThumbsModel", "bestDead", "I", false)
  | 33 => ("ByTheThumbsModel", "bestFavour", "I", false)
  | 34 => ("ByTheThumbsModel", "path", "[[I", true)
  | 35 => ("ByTheThumbsModel", "bestEnd", "I", false)
  | 36 => ("ByTheThumbsModel", "over", "[I", true)
  | 37 => ("ByTheThumbsModel", "scores", "I", false)
  | 38 => ("ByTheThumbsModel", "onward", "[I", true)
  | 39 => ("ByTheThumbsModel", "hither", "[I", true)
  | 40 => ("ByTheThumbsModel", "heardOf", "[I", true)
  | 41 => ("ByTheThumbsModel", "heardBy", "[I", true)
  | 42 => ("ByTheThumbsModel", "heardMany", "I", false)
  | 43 => ("ByTheThumbsModel", "isFirst", "[Z", true)
  | 44 => ("ByTheThumbsModel", "drawn", "I", false)
  | 45 => ("ByTheThumbsModel", "came", "I", false)
  | 46 => ("ByTheThumbsModel", "kept", "[I", true)
  | 47 => ("ByTheThumbsModel", "isKept", "[Z", true)
  | _ => ("ByTheThumbsModel", "keptCame", "[I", true)
def tyX12 : Nat → FieldType := fun k => match k with
  | 0 => .array .int
  | 1 => .int
  | 2 => .array .int
  | 3 => .int
  | 4 => .array .int
  | 5 => .int
  | 6 => .array .byte
  | 7 => .int
  | 8 => .array .long
  | 9 => .int
  | 10 => .int
  | 11 => .array .byte
  | 12 => .int
  | 13 => .int
  | 14 => .int
  | 15 => .int
  | 16 => .array .int
  | 17 => .array .byte
  | 18 => .array .byte
  | 19 => .int
  | 20 => .boolean
  | 21 => .array .int
  | 22 => .array .int
  | 23 => .int
  | 24 => .array .int
  | 25 => .array .int
  | 26 => .boolean
  | 27 => .array .int
  | 28 => .int
  | 29 => .boolean
  | 30 => .array .int
  | 31 => .array .int
  | 32 => .int
  | 33 => .int
  | 34 => .array (.array .int)
  | 35 => .int
  | 36 => .array .int
  | 37 => .int
  | 38 => .array .int
  | 39 => .array .int
  | 40 => .array .int
  | 41 => .array .int
  | 42 => .int
  | 43 => .array .boolean
  | 44 => .int
  | 45 => .int
  | 46 => .array .int
  | 47 => .array .boolean
  | _ => .array .int
abbrev wsX120 : List Cond := u_ws RX12 TX12 49
theorem nmX12 : ∀ a, a < 49 → ∀ b, b < 49 → a ≠ b → (TX12 a).2.1 ≠ (TX12 b).2.1 := by decide +kernel
theorem tyX12_ok : ∀ k, k < 49 → parseFieldDescriptor (TX12 k).2.2.1 = some (tyX12 k) := by decide +kernel
abbrev cX12_init : ByteArray := prog_14_method_1_code
def yX12_init : MethodName := ⟨RX12, "<init>", "()V"⟩
abbrev cX12_thrown : ByteArray := prog_14_method_2_code
def yX12_thrown : MethodName := ⟨RX12, "thrown", "()I"⟩
abbrev cX12_in : ByteArray := prog_14_method_3_code
def yX12_in : MethodName := ⟨RX12, "in", "(III)Z"⟩
abbrev cX12_has : ByteArray := prog_14_method_4_code
def yX12_has : MethodName := ⟨RX12, "has", "(II)Z"⟩
abbrev cX12_lost : ByteArray := prog_14_method_5_code
def yX12_lost : MethodName := ⟨RX12, "lost", "()I"⟩
abbrev cX12_tell : ByteArray := prog_14_method_6_code
def yX12_tell : MethodName := ⟨RX12, "tell", "(J)V"⟩
abbrev cX12_isMan : ByteArray := prog_14_method_7_code
def yX12_isMan : MethodName := ⟨RX12, "isMan", "(I)Z"⟩
abbrev cX12_arms : ByteArray := prog_14_method_8_code
def yX12_arms : MethodName := ⟨RX12, "arms", "(I)I"⟩
abbrev cX12_skill : ByteArray := prog_14_method_9_code
def yX12_skill : MethodName := ⟨RX12, "skill", "(I)I"⟩
abbrev cX12_hire : ByteArray := prog_14_method_10_code
def yX12_hire : MethodName := ⟨RX12, "hire", "(I)I"⟩
abbrev cX12_owner : ByteArray := prog_14_method_11_code
def yX12_owner : MethodName := ⟨RX12, "owner", "(I)I"⟩
abbrev cX12_sign : ByteArray := prog_14_method_12_code
def yX12_sign : MethodName := ⟨RX12, "sign", "(I)I"⟩
abbrev cX12_end : ByteArray := prog_14_method_13_code
def yX12_end : MethodName := ⟨RX12, "end", "(I)Z"⟩
abbrev cX12_begin : ByteArray := prog_14_method_14_code
def yX12_begin : MethodName := ⟨RX12, "begin", "([BII)V"⟩
abbrev cX12_beginText : ByteArray := prog_14_method_15_code
def yX12_beginText : MethodName := ⟨RX12, "beginText", "(I)V"⟩
abbrev cX12_here : ByteArray := prog_14_method_16_code
def yX12_here : MethodName := ⟨RX12, "here", "()I"⟩
abbrev cX12_fine : ByteArray := prog_14_method_17_code
def yX12_fine : MethodName := ⟨RX12, "fine", "()Z"⟩
abbrev cX12_fault : ByteArray := prog_14_method_18_code
def yX12_fault : MethodName := ⟨RX12, "fault", "(I)V"⟩
abbrev cX12_passes : ByteArray := prog_14_method_19_code
def yX12_passes : MethodName := ⟨RX12, "passes", "(C)Z"⟩
abbrev cX12_need : ByteArray := prog_14_method_20_code
def yX12_need : MethodName := ⟨RX12, "need", "(C)V"⟩
abbrev cX12_oneOf : ByteArray := prog_14_method_21_code
def yX12_oneOf : MethodName := ⟨RX12, "oneOf", "(CI)I"⟩
abbrev cX12_number : ByteArray := prog_14_method_22_code
def yX12_number : MethodName := ⟨RX12, "number", "(I)I"⟩
abbrev cX12_wasRight : ByteArray := prog_14_method_23_code
def yX12_wasRight : MethodName := ⟨RX12, "wasRight", "()Z"⟩
abbrev cX12_told : ByteArray := prog_14_method_24_code
def yX12_told : MethodName := ⟨RX12, "told", "()V"⟩
abbrev cX12_armsBy : ByteArray := prog_14_method_25_code
def yX12_armsBy : MethodName := ⟨RX12, "armsBy", "(I)I"⟩
abbrev cX12_readMan : ByteArray := prog_14_method_26_code
def yX12_readMan : MethodName := ⟨RX12, "readMan", "(I)V"⟩
abbrev cX12_fighters : ByteArray := prog_14_method_27_code
def yX12_fighters : MethodName := ⟨RX12, "fighters", "()I"⟩
abbrev cX12_seats : ByteArray := prog_14_method_28_code
def yX12_seats : MethodName := ⟨RX12, "seats", "()I"⟩
abbrev cX12_held : ByteArray := prog_14_method_29_code
def yX12_held : MethodName := ⟨RX12, "held", "(I)I"⟩
abbrev cX12_sum : ByteArray := prog_14_method_30_code
def yX12_sum : MethodName := ⟨RX12, "sum", "(I)I"⟩
abbrev cX12_product : ByteArray := prog_14_method_31_code
def yX12_product : MethodName := ⟨RX12, "product", "(I)I"⟩
abbrev cX12_letterOf : ByteArray := prog_14_method_32_code
def yX12_letterOf : MethodName := ⟨RX12, "letterOf", "(I)I"⟩
abbrev cX12_thing : ByteArray := prog_14_method_33_code
def yX12_thing : MethodName := ⟨RX12, "thing", "(I)I"⟩
abbrev cX12_readRule : ByteArray := prog_14_method_34_code
def yX12_readRule : MethodName := ⟨RX12, "readRule", "()Z"⟩
abbrev cX12_rule : ByteArray := prog_14_method_35_code
def yX12_rule : MethodName := ⟨RX12, "rule", "()I"⟩
abbrev cX12_strengthOf : ByteArray := prog_14_method_36_code
def yX12_strengthOf : MethodName := ⟨RX12, "strengthOf", "([III)I"⟩
abbrev cX12_fighter : ByteArray := prog_14_method_37_code
def yX12_fighter : MethodName := ⟨RX12, "fighter", "(II)I"⟩
abbrev cX12_seat : ByteArray := prog_14_method_38_code
def yX12_seat : MethodName := ⟨RX12, "seat", "(II)I"⟩
abbrev cX12_purse : ByteArray := prog_14_method_39_code
def yX12_purse : MethodName := ⟨RX12, "purse", "(I)I"⟩
abbrev cX12_areTwo : ByteArray := prog_14_method_40_code
def yX12_areTwo : MethodName := ⟨RX12, "areTwo", "(II)Z"⟩
abbrev cX12_strength : ByteArray := prog_14_method_41_code
def yX12_strength : MethodName := ⟨RX12, "strength", "(II)I"⟩
abbrev cX12_set : ByteArray := prog_14_method_42_code
def yX12_set : MethodName := ⟨RX12, "set", "(II)I"⟩
abbrev cX12_sheet : ByteArray := prog_14_method_43_code
def yX12_sheet : MethodName := ⟨RX12, "sheet", "(IIII)I"⟩
abbrev cX12_upFor : ByteArray := prog_14_method_44_code
def yX12_upFor : MethodName := ⟨RX12, "upFor", "(III)I"⟩
abbrev cX12_peopleOf : ByteArray := prog_14_method_45_code
def yX12_peopleOf : MethodName := ⟨RX12, "peopleOf", "(I)I"⟩
abbrev cX12_allSeats : ByteArray := prog_14_method_46_code
def yX12_allSeats : MethodName := ⟨RX12, "allSeats", "()I"⟩
abbrev cX12_isSpared : ByteArray := prog_14_method_47_code
def yX12_isSpared : MethodName := ⟨RX12, "isSpared", "(III)Z"⟩
abbrev cX12_isSparedNow : ByteArray := prog_14_method_48_code
def yX12_isSparedNow : MethodName := ⟨RX12, "isSparedNow", "([II)Z"⟩
abbrev cX12_lay : ByteArray := prog_14_method_49_code
def yX12_lay : MethodName := ⟨RX12, "lay", "([I[II)V"⟩
abbrev cX12_remember : ByteArray := prog_14_method_50_code
def yX12_remember : MethodName := ⟨RX12, "remember", "([I)V"⟩
abbrev cX12_pays : ByteArray := prog_14_method_51_code
def yX12_pays : MethodName := ⟨RX12, "pays", "([III)V"⟩
abbrev cX12_likes : ByteArray := prog_14_method_52_code
def yX12_likes : MethodName := ⟨RX12, "likes", "([III)V"⟩
abbrev cX12_pairOf : ByteArray := prog_14_method_53_code
def yX12_pairOf : MethodName := ⟨RX12, "pairOf", "(II)I"⟩
abbrev cX12_canFight : ByteArray := prog_14_method_54_code
def yX12_canFight : MethodName := ⟨RX12, "canFight", "([II)Z"⟩
abbrev cX12_refusesFight : ByteArray := prog_14_method_55_code
def yX12_refusesFight : MethodName := ⟨RX12, "refusesFight", "([III)I"⟩
abbrev cX12_goFight : ByteArray := prog_14_method_56_code
def yX12_goFight : MethodName := ⟨RX12, "goFight", "([III)I"⟩
abbrev cX12_goesFree : ByteArray := prog_14_method_57_code
def yX12_goesFree : MethodName := ⟨RX12, "goesFree", "([II)V"⟩
abbrev cX12_fight : ByteArray := prog_14_method_58_code
def yX12_fight : MethodName := ⟨RX12, "fight", "(II)I"⟩
abbrev cX12_goDays : ByteArray := prog_14_method_59_code
def yX12_goDays : MethodName := ⟨RX12, "goDays", "([II)V"⟩
abbrev cX12_days : ByteArray := prog_14_method_60_code
def yX12_days : MethodName := ⟨RX12, "days", "(I)I"⟩
abbrev cX12_refusesSong : ByteArray := prog_14_method_61_code
def yX12_refusesSong : MethodName := ⟨RX12, "refusesSong", "(II)I"⟩
abbrev cX12_goSong : ByteArray := prog_14_method_62_code
def yX12_goSong : MethodName := ⟨RX12, "goSong", "(II)V"⟩
abbrev cX12_song : ByteArray := prog_14_method_63_code
def yX12_song : MethodName := ⟨RX12, "song", "(II)I"⟩
abbrev cX12_refusesFree : ByteArray := prog_14_method_64_code
def yX12_refusesFree : MethodName := ⟨RX12, "refusesFree", "(I)I"⟩
abbrev cX12_goFree : ByteArray := prog_14_method_65_code
def yX12_goFree : MethodName := ⟨RX12, "goFree", "(I)V"⟩
abbrev cX12_frees : ByteArray := prog_14_method_66_code
def yX12_frees : MethodName := ⟨RX12, "frees", "(I)I"⟩
abbrev cX12_those : ByteArray := prog_14_method_67_code
def yX12_those : MethodName := ⟨RX12, "those", "([II)I"⟩
abbrev cX12_games : ByteArray := prog_14_method_68_code
def yX12_games : MethodName := ⟨RX12, "games", "()I"⟩
abbrev cX12_readAct : ByteArray := prog_14_method_69_code
def yX12_readAct : MethodName := ⟨RX12, "readAct", "(I)V"⟩
abbrev cX12_act : ByteArray := prog_14_method_70_code
def yX12_act : MethodName := ⟨RX12, "act", "(III)Z"⟩
abbrev cX12_undo : ByteArray := prog_14_method_71_code
def yX12_undo : MethodName := ⟨RX12, "undo", "()I"⟩
abbrev cX12_thumbs : ByteArray := prog_14_method_72_code
def yX12_thumbs : MethodName := ⟨RX12, "thumbs", "(I)I"⟩
abbrev cX12_mercy : ByteArray := prog_14_method_73_code
def yX12_mercy : MethodName := ⟨RX12, "mercy", "()I"⟩
abbrev cX12_claque : ByteArray := prog_14_method_74_code
def yX12_claque : MethodName := ⟨RX12, "claque", "(I)I"⟩
abbrev cX12_tips : ByteArray := prog_14_method_75_code
def yX12_tips : MethodName := ⟨RX12, "tips", "(I)I"⟩
abbrev cX12_tryFight : ByteArray := prog_14_method_76_code
def yX12_tryFight : MethodName := ⟨RX12, "tryFight", "([III)I"⟩
abbrev cX12_would : ByteArray := prog_14_method_77_code
def yX12_would : MethodName := ⟨RX12, "would", "(II)I"⟩
abbrev cX12_beats : ByteArray := prog_14_method_78_code
def yX12_beats : MethodName := ⟨RX12, "beats", "(I)I"⟩
abbrev cX12_goCard : ByteArray := prog_14_method_79_code
def yX12_goCard : MethodName := ⟨RX12, "goCard", "(IIIIII)V"⟩
abbrev cX12_card : ByteArray := prog_14_method_80_code
def yX12_card : MethodName := ⟨RX12, "card", "(I)I"⟩
abbrev cX12_even : ByteArray := prog_14_method_81_code
def yX12_even : MethodName := ⟨RX12, "even", "()I"⟩
abbrev cX12_goCareer : ByteArray := prog_14_method_82_code
def yX12_goCareer : MethodName := ⟨RX12, "goCareer", "(III)V"⟩
abbrev cX12_career : ByteArray := prog_14_method_83_code
def yX12_career : MethodName := ⟨RX12, "career", "(II)I"⟩
abbrev cX12_sword : ByteArray := prog_14_method_84_code
def yX12_sword : MethodName := ⟨RX12, "sword", "(II)I"⟩
abbrev cX12_worth : ByteArray := prog_14_method_85_code
def yX12_worth : MethodName := ⟨RX12, "worth", "(I)I"⟩
abbrev cX12_hiresOf : ByteArray := prog_14_method_86_code
def yX12_hiresOf : MethodName := ⟨RX12, "hiresOf", "(I)I"⟩
abbrev cX12_favoursOf : ByteArray := prog_14_method_87_code
def yX12_favoursOf : MethodName := ⟨RX12, "favoursOf", "(I)I"⟩
abbrev cX12_hires : ByteArray := prog_14_method_88_code
def yX12_hires : MethodName := ⟨RX12, "hires", "(I)I"⟩
abbrev cX12_score : ByteArray := prog_14_method_89_code
def yX12_score : MethodName := ⟨RX12, "score", "(II)I"⟩
abbrev cX12_wash : ByteArray := prog_14_method_90_code
def yX12_wash : MethodName := ⟨RX12, "wash", "()I"⟩
abbrev cX12_canCome : ByteArray := prog_14_method_91_code
def yX12_canCome : MethodName := ⟨RX12, "canCome", "(IIII)Z"⟩
abbrev cX12_countOrders : ByteArray := prog_14_method_92_code
def yX12_countOrders : MethodName := ⟨RX12, "countOrders", "(II)I"⟩
abbrev cX12_ranks : ByteArray := prog_14_method_93_code
def yX12_ranks : MethodName := ⟨RX12, "ranks", "()I"⟩
abbrev cX12_stands : ByteArray := prog_14_method_94_code
def yX12_stands : MethodName := ⟨RX12, "stands", "(II)I"⟩
abbrev cX12_places : ByteArray := prog_14_method_95_code
def yX12_places : MethodName := ⟨RX12, "places", "(I)I"⟩
abbrev cX12_watch : ByteArray := prog_14_method_96_code
def yX12_watch : MethodName := ⟨RX12, "watch", "()I"⟩
abbrev cX12_common : ByteArray := prog_14_method_97_code
def yX12_common : MethodName := ⟨RX12, "common", "(JJ)J"⟩
abbrev cX12_tellPart : ByteArray := prog_14_method_98_code
def yX12_tellPart : MethodName := ⟨RX12, "tellPart", "(JJ)V"⟩
abbrev cX12_power : ByteArray := prog_14_method_99_code
def yX12_power : MethodName := ⟨RX12, "power", "(JI)J"⟩
abbrev cX12_choose : ByteArray := prog_14_method_100_code
def yX12_choose : MethodName := ⟨RX12, "choose", "(II)J"⟩
abbrev cX12_odds : ByteArray := prog_14_method_101_code
def yX12_odds : MethodName := ⟨RX12, "odds", "(III)I"⟩
abbrev cX12_till : ByteArray := prog_14_method_102_code
def yX12_till : MethodName := ⟨RX12, "till", "(III)I"⟩
abbrev cX12_heard : ByteArray := prog_14_method_103_code
def yX12_heard : MethodName := ⟨RX12, "heard", "(II)I"⟩
abbrev cX12_forget : ByteArray := prog_14_method_104_code
def yX12_forget : MethodName := ⟨RX12, "forget", "()I"⟩
abbrev cX12_fits : ByteArray := prog_14_method_105_code
def yX12_fits : MethodName := ⟨RX12, "fits", "(III)Z"⟩
abbrev cX12_fitting : ByteArray := prog_14_method_106_code
def yX12_fitting : MethodName := ⟨RX12, "fitting", "()I"⟩
abbrev cX12_fits_ : ByteArray := prog_14_method_107_code
def yX12_fits_ : MethodName := ⟨RX12, "fits", "()I"⟩
abbrev cX12_ask : ByteArray := prog_14_method_108_code
def yX12_ask : MethodName := ⟨RX12, "ask", "()I"⟩
abbrev cX12_gets : ByteArray := prog_14_method_109_code
def yX12_gets : MethodName := ⟨RX12, "gets", "(III)I"⟩
abbrev cX12_isBest : ByteArray := prog_14_method_110_code
def yX12_isBest : MethodName := ⟨RX12, "isBest", "(III)Z"⟩
abbrev cX12_rests : ByteArray := prog_14_method_111_code
def yX12_rests : MethodName := ⟨RX12, "rests", "(I)I"⟩
abbrev cX12_winsFirst : ByteArray := prog_14_method_112_code
def yX12_winsFirst : MethodName := ⟨RX12, "winsFirst", "(II)Z"⟩
abbrev cX12_law : ByteArray := prog_14_method_113_code
def yX12_law : MethodName := ⟨RX12, "law", "()I"⟩
abbrev cX12_draw : ByteArray := prog_14_method_114_code
def yX12_draw : MethodName := ⟨RX12, "draw", "(I)I"⟩
abbrev cX12_years : ByteArray := prog_14_method_115_code
def yX12_years : MethodName := ⟨RX12, "years", "(II)I"⟩
abbrev cX12_keep : ByteArray := prog_14_method_116_code
def yX12_keep : MethodName := ⟨RX12, "keep", "(I)Z"⟩
abbrev cX12_again : ByteArray := prog_14_method_117_code
def yX12_again : MethodName := ⟨RX12, "again", "(I)Z"⟩
abbrev cX12_count : ByteArray := prog_14_method_118_code
def yX12_count : MethodName := ⟨RX12, "count", "(I)I"⟩
abbrev cX12_row : ByteArray := prog_14_method_119_code
def yX12_row : MethodName := ⟨RX12, "row", "(I)J"⟩
def RJ6 : String := "java/lang/Integer"
abbrev cJ6_bitCount_0f7a4 : ByteArray := prog_19_method_49_code
def yJ6_bitCount_0f7a4 : MethodName := ⟨RJ6, "bitCount", "(I)I"⟩
def RJ9 : String := "java/lang/Math"
abbrev cJ9_abs_067f4 : ByteArray := prog_20_method_61_code
def yJ9_abs_067f4 : MethodName := ⟨RJ9, "abs", "(J)J"⟩
abbrev cJ9_max_7cf53 : ByteArray := prog_20_method_65_code
def yJ9_max_7cf53 : MethodName := ⟨RJ9, "max", "(II)I"⟩
abbrev cJ9_max_f86c9 : ByteArray := prog_20_method_66_code
def yJ9_max_f86c9 : MethodName := ⟨RJ9, "max", "(JJ)J"⟩
abbrev cJ9_min_7cf53 : ByteArray := prog_20_method_69_code
def yJ9_min_7cf53 : MethodName := ⟨RJ9, "min", "(II)I"⟩
abbrev cJ9_min_f86c9 : ByteArray := prog_20_method_70_code
def yJ9_min_f86c9 : MethodName := ⟨RJ9, "min", "(JJ)J"⟩
def RJ0 : String := "java/lang/String"
abbrev cJ0_length_8abf5 : ByteArray := prog_22_method_54_code
def yJ0_length_8abf5 : MethodName := ⟨RJ0, "length", "()I"⟩
abbrev cJ0_charAt_5068e : ByteArray := prog_22_method_56_code
def yJ0_charAt_5068e : MethodName := ⟨RJ0, "charAt", "(I)C"⟩
def RJ10 : String := "java/lang/System"
def RL : String := "ByTheThumbsLaw"
abbrev cL_fighter : ByteArray := method_3_code
def yL_fighter : MethodName := ⟨RL, "fighter", "(LByTheThumbs;II[J)I"⟩
abbrev cL_seat : ByteArray := method_4_code
def yL_seat : MethodName := ⟨RL, "seat", "(LByTheThumbs;II[J)I"⟩
abbrev cL_strength : ByteArray := method_5_code
def yL_strength : MethodName := ⟨RL, "strength", "(LByTheThumbs;II[J)I"⟩
abbrev cL_row : ByteArray := method_6_code
def yL_row : MethodName := ⟨RL, "row", "(LByTheThumbs;I[J)I"⟩
abbrev cL_law : ByteArray := code
def yL_law : MethodName := ⟨RL, "law", "([I)Z"⟩
abbrev vwCl : List vw_C := [(RX0, TX0, 5), (RX1, TX1, 2), (RX2, TX2, 3), (RX3, TX3, 5), (RX4, TX4, 5), (RX5, TX5, 2), (RX6, TX6, 3), (RX7, TX7, 11), (RX8, TX8, 1), (RX9, TX9, 4), (RX10, TX10, 5), (RX11, TX11, 12), (RX12, TX12, 49)]
end
section
/-! the worlds' shapes: an address is a kind and an instance; kinds 0 to 12 are the classes of vwCl, the others arrays -/
abbrev Ad : Type := Nat × Nat
/-- a field: (0: int | 1: boolean | 2: a fixed cell, of kind x, instance z or (mode 1) the object's own | 3: a cell of kind y, its instance in slot x | 4: the same, or null) -/
abbrev Fdk : Type := Nat × Nat × Nat × Nat
/-- an object's fields, or an array: (0 int, 1 long, 2 byte, 3 boolean, 4 objects, 5 rows), its length (of instance 0; of the others, if not 0), what its elements are -/
abbrev Shk : Type := List Fdk ⊕ (Nat × Nat × Nat × Nat × Nat × Nat)
def shpL : List Shk := [
.inl [(2, 3, 0, 0), (2, 1, 0, 0), (3, 0, 6, 0), (3, 1, 6, 0), (0, 0, 0, 0)],
  .inl [(2, 3, 0, 1), (0, 0, 0, 0)],
  .inl [(2, 20, 0, 0), (2, 21, 0, 0), (0, 0, 0, 0)],
  .inl [(2, 90, 1, 0), (0, 0, 0, 0), (2, 22, 1, 0), (0, 0, 0, 0), (0, 0, 0, 0)],
  .inl [(2, 23, 0, 0), (2, 24, 0, 0), (0, 0, 0, 0), (0, 0, 0, 0), (0, 0, 0, 0)],
  .inl [(2, 25, 0, 0), (0, 0, 0, 0)],
  .inl [(2, 26, 1, 0), (2, 27, 1, 0), (0, 0, 0, 0)],
  .inl [(2, 0, 0, 0), (2, 28, 0, 0), (2, 29, 0, 0), (2, 30, 0, 0), (2, 31, 0, 0), (2, 32, 0, 0), (0, 0, 0, 0), (0, 0, 0, 0), (1, 0, 0, 0), (0, 0, 0, 0), (0, 0, 0, 0)],
  .inl [(2, 33, 1, 0)],
  .inl [(2, 34, 0, 0), (0, 0, 0, 0), (0, 0, 0, 0), (0, 0, 0, 0)],
  .inl [(2, 35, 0, 0), (2, 36, 0, 0), (2, 37, 0, 0), (0, 0, 0, 0), (0, 0, 0, 0)],
  .inl [(2, 9, 0, 0), (2, 5, 0, 0), (2, 3, 0, 0), (2, 1, 0, 0), (2, 0, 0, 0), (2, 8, 0, 0), (2, 8, 0, 1), (2, 8, 0, 2), (2, 4, 0, 0), (2, 7, 0, 0), (2, 10, 0, 0), (2, 2, 0, 0)],
  .inl [(2, 40, 0, 0), (0, 0, 0, 0), (2, 41, 0, 0), (0, 0, 0, 0), (2, 42, 0, 0), (0, 0, 0, 0), (2, 43, 0, 0), (0, 0, 0, 0), (2, 44, 0, 0), (0, 0, 0, 0), (0, 0, 0, 0), (4, 2, 43, 0), (0, 0, 0, 0), (0, 0, 0, 0), (0, 0, 0, 0), (0, 0, 0, 0), (2, 45, 0, 0), (3, 3, 43, 0), (3, 4, 43, 0), (0, 0, 0, 0), (1, 0, 0, 0), (2, 46, 0, 0), (2, 47, 0, 0), (0, 0, 0, 0), (2, 40, 0, 1), (2, 40, 0, 2), (1, 0, 0, 0), (2, 48, 0, 0), (0, 0, 0, 0), (1, 0, 0, 0), (2, 49, 0, 0), (2, 50, 0, 0), (0, 0, 0, 0), (0, 0, 0, 0), (2, 51, 0, 0), (0, 0, 0, 0), (2, 52, 0, 0), (0, 0, 0, 0), (2, 53, 0, 0), (2, 54, 0, 0), (2, 55, 0, 0), (2, 56, 0, 0), (0, 0, 0, 0), (2, 57, 0, 0), (0, 0, 0, 0), (0, 0, 0, 0), (2, 58, 0, 0), (2, 59, 0, 0), (2, 60, 0, 0)],
  .inl [],
  .inl [],
  .inl [],
  .inl [],
  .inl [],
  .inl [],
  .inl [],
  .inr (0, 12, 0, 0, 0, 0),
  .inr (0, 12, 0, 0, 0, 0),
  .inr (5, 5, 0, 38, 1, 0),
  .inr (4, 12, 0, 8, 0, 3),
  .inr (4, 2, 0, 8, 0, 15),
  .inr (1, 8, 0, 0, 0, 0),
  .inr (0, 40, 0, 0, 0, 0),
  .inr (0, 40, 0, 0, 0, 0),
  .inr (4, 5, 0, 8, 0, 17),
  .inr (0, 64, 0, 0, 0, 0),
  .inr (0, 64, 0, 0, 0, 0),
  .inr (0, 4, 0, 0, 0, 0),
  .inr (0, 4, 0, 0, 0, 0),
  .inr (0, 47, 0, 0, 0, 0),
  .inr (0, 80, 0, 0, 0, 0),
  .inr (0, 8, 0, 0, 0, 0),
  .inr (0, 256, 0, 0, 0, 0),
  .inr (0, 256, 0, 0, 0, 0),
  .inr (0, 8, 0, 0, 0, 0),
  .inl [],
  .inr (0, 47, 0, 0, 0, 0),
  .inr (0, 32, 0, 0, 0, 0),
  .inr (0, 24, 0, 0, 0, 0),
  .inr (2, 80, 40, 0, 0, 0),
  .inr (1, 16, 0, 0, 0, 0),
  .inr (0, 40, 0, 0, 0, 0),
  .inr (0, 8, 0, 0, 0, 0),
  .inr (0, 564, 0, 0, 0, 0),
  .inr (0, 240, 0, 0, 0, 0),
  .inr (0, 8, 0, 0, 0, 0),
  .inr (0, 8, 0, 0, 0, 0),
  .inr (5, 5, 0, 40, 0, 3),
  .inr (0, 8, 0, 0, 0, 0),
  .inr (0, 256, 0, 0, 0, 0),
  .inr (0, 256, 0, 0, 0, 0),
  .inr (0, 12, 0, 0, 0, 0),
  .inr (0, 12, 0, 0, 0, 0),
  .inr (3, 64, 0, 0, 0, 0),
  .inr (0, 94, 0, 0, 0, 0),
  .inr (3, 2, 0, 0, 0, 0),
  .inr (0, 2, 0, 0, 0, 0)]
def shp (k : Nat) : Shk := shpL.getD k (.inl [])
def alC : List Ad := [(11, 0), (9, 0), (34, 0), (5, 0), (25, 0), (3, 0), (22, 0), (38, 0), (38, 1), (38, 2), (38, 3), (38, 4), (1, 0), (3, 1), (22, 1), (38, 5), (38, 6), (38, 7), (38, 8), (38, 9), (0, 0), (6, 0), (26, 0), (27, 0), (6, 1), (26, 1), (27, 1), (8, 0), (33, 0), (8, 1), (33, 1), (8, 2), (33, 2), (8, 3), (33, 3), (8, 4), (33, 4), (8, 5), (33, 5), (8, 6), (33, 6), (8, 7), (33, 7), (8, 8), (33, 8), (8, 9), (33, 9), (8, 10), (33, 10), (8, 11), (33, 11), (8, 12), (33, 12), (8, 13), (33, 13), (8, 14), (33, 14), (8, 15), (33, 15), (8, 16), (33, 16), (8, 17), (33, 17), (8, 18), (33, 18), (8, 19), (33, 19), (8, 20), (33, 20), (8, 21), (33, 21), (4, 0), (23, 0), (24, 0), (7, 0), (28, 0), (29, 0), (30, 0), (31, 0), (32, 0), (10, 0), (35, 0), (36, 0), (37, 0), (2, 0), (20, 0), (21, 0)]
def alM : List Ad := [(12, 0), (40, 0), (40, 1), (40, 2), (40, 3), (40, 4), (40, 5), (40, 6), (40, 7), (41, 0), (42, 0), (43, 0), (43, 1), (43, 2), (44, 0), (45, 0), (46, 0), (47, 0), (48, 0), (49, 0), (50, 0), (51, 0), (52, 0), (53, 0), (54, 0), (55, 0), (56, 0), (57, 0), (58, 0), (59, 0), (60, 0)]
end
section
/-! THE ABSTRACT MACHINE: values, heaps, cells -/
abbrev AV : Type := Int32 ⊕ (Int64 ⊕ Ad)
abbrev vI (x : Int32) : AV := Sum.inl x
abbrev vL (x : Int64) : AV := Sum.inr (Sum.inl x)
abbrev vR (k i : Nat) : AV := Sum.inr (Sum.inr (k, i))
/-- ints (fields and elements) by kind, instance, place; longs by kind, place; instances by slot -/
abbrev Hp : Type := (Nat → Nat → Nat → Int32) × (Nat → Nat → Int64) × (Nat → Nat)
def trV (tr : Ad → Nat) : AV → Value
  | .inl x => .int x
  | .inr (.inl x) => .long x
  | .inr (.inr a) => .ref (tr a)
def fval (h : Hp) (a : Ad) (k : Nat) (fd : Fdk) : AV := match fd.1 with
  | 0 => vI (h.1 a.1 a.2 k)
  | 1 => vI (h.1 a.1 a.2 k)
  | 2 => vR fd.2.1 (match fd.2.2.1 with
    | 0 => fd.2.2.2
    | _ => a.2)
  | _ => vR fd.2.2.1 (h.2.2 fd.2.1)
/-- what the machine's cell holds there -/
def rfv (tr : Ad → Nat) (h : Hp) (a : Ad) (k : Nat) (fd : Fdk) : Value := match fd.1 with
  | 4 => if h.2.2 fd.2.1 = 7 then .null else trV tr (fval h a k fd)
  | _ => trV tr (fval h a k fd)
abbrev Aq : Type := Nat × Nat × Nat × Nat × Nat × Nat
def aln (q : Aq) (i : Nat) : Nat := match q.2.2.1 with
  | 0 => q.2.1
  | n => (match i with
    | 0 => q.2.1
    | _ => n)
def ein (q : Aq) (i idx : Nat) : Nat := match q.2.2.2.2.1 with
  | 0 => q.2.2.2.2.2 + idx
  | _ => 5 * i + idx
def acon (tr : Ad → Nat) (h : Hp) (a : Ad) (q : Aq) : (Nat → Int32) ⊕ (Nat → Int64) ⊕ (Nat → UInt32) ⊕ (Nat → UInt64) ⊕ (Nat → Option Nat) := match q.1 with
  | 0 => .inl (h.1 a.1 a.2)
  | 1 => .inr (.inl (h.2.1 a.1))
  | 2 => .inl (h.1 a.1 a.2)
  | 3 => .inl (h.1 a.1 a.2)
  | _ => .inr (.inr (.inr (.inr (fun i => some (tr (q.2.2.2.1, ein q a.2 i))))))
def cellOf (cA : Nat → ClassId) (tr : Ad → Nat) (h : Hp) (a : Ad) : va_E := match shp a.1 with
  | .inl fds => .inr (a.1, fds.mapIdx (fun k fd => rfv tr h a k fd))
  | .inr q => .inl (cA q.1, aln q a.2, acon tr h a q)
theorem cell_obj {cA : Nat → ClassId} {tr : Ad → Nat} {h : Hp} {a : Ad} {fds : List Fdk} (e : shp a.1 = .inl fds) : cellOf cA tr h a = .inr (a.1, fds.mapIdx (fun k fd => rfv tr h a k fd)) := by
  unfold cellOf; rw [e]
theorem cell_arr {cA : Nat → ClassId} {tr : Ad → Nat} {h : Hp} {a : Ad} {q : Aq} (e : shp a.1 = .inr q) : cellOf cA tr h a = .inl (cA q.1, aln q a.2, acon tr h a q) := by
  unfold cellOf; rw [e]
def wof (cA : Nat → ClassId) (tr : Ad → Nat) (h : Hp) (al : List Ad) : va_W := al.map (fun a => (tr a, cellOf cA tr h a))
/-- which real addresses a world has -/
def Aw (al : List Ad) (tr : Ad → Nat) : Nat → Prop := fun q => ∃ a, a ∈ al ∧ q = tr a
def Inj (al : List Ad) (tr : Ad → Nat) : Prop := ∀ a, a ∈ al → ∀ b, b ∈ al → tr a = tr b → a = b
theorem wof_at {cA : Nat → ClassId} {tr : Ad → Nat} {h : Hp} {al : List Ad} {i : Nat} {a : Ad} (e : al[i]? = some a) : (wof cA tr h al)[i]? = some (tr a, cellOf cA tr h a) := by
  unfold wof; rw [List.getElem?_map, e]; rfl
theorem wof_in {cA : Nat → ClassId} {tr : Ad → Nat} {h : Hp} {al : List Ad} {a : Ad} (e : a ∈ al) : ∃ i : Nat, al[i]? = some a ∧ (wof cA tr h al)[i]? = some (tr a, cellOf cA tr h a) := by
  obtain ⟨i, hi⟩ := List.getElem?_of_mem e
  exact ⟨i, hi, wof_at hi⟩
theorem wof_D {cA : Nat → ClassId} {tr : Ad → Nat} {h : Hp} {al : List Ad} (hn : al.Nodup) (hi : Inj al tr) : va_D (Aw al tr) (wof cA tr h al) := by
  have key : ∀ (i : Nat) (p : Nat × va_E), (wof cA tr h al)[i]? = some p → ∃ a, al[i]? = some a ∧ p.1 = tr a := by
    intro i p hp
    unfold wof at hp
    rw [List.getElem?_map] at hp
    cases ha : al[i]? with
    | none => rw [ha] at hp; cases hp
    | some a => rw [ha] at hp; cases hp; exact ⟨a, rfl, rfl⟩
  refine ⟨fun i j p q hp hq hpq => ?_, fun k q hq => ?_⟩
  · obtain ⟨a, h1, h2⟩ := key i p hp
    obtain ⟨b, h3, h4⟩ := key j q hq
    have hab : a = b := hi a (List.mem_of_getElem? h1) b (List.mem_of_getElem? h3) (by rw [← h2, ← h4, hpq])
    subst hab
    exact (List.getElem?_inj (List.getElem?_eq_some_iff.mp h1).1 hn).mp (h1.trans h3.symm)
  · obtain ⟨a, h1, h2⟩ := key k q hq
    exact ⟨a, List.mem_of_getElem? h1, h2⟩
theorem wof_setM {cA : Nat → ClassId} {tr : Ad → Nat} {h h' : Hp} {al : List Ad} {i : Nat} {a : Ad} {e : va_E} (hn : al.Nodup) (hi : al[i]? = some a) (h1 : cellOf cA tr h' a = e) (h2 : ∀ b, b ∈ al → b ≠ a → cellOf cA tr h' b = cellOf cA tr h b) : (wof cA tr h al).set i (tr a, e) = wof cA tr h' al := by
  have hl := (List.getElem?_eq_some_iff.mp hi).1
  apply List.ext_getElem?
  intro j
  by_cases hj : j = i
  · subst hj
    rw [List.getElem?_set_self (by unfold wof; rw [List.length_map]; exact hl), wof_at hi, h1]
  · rw [List.getElem?_set_ne (Ne.symm hj)]
    unfold wof
    rw [List.getElem?_map, List.getElem?_map]
    cases hb : al[j]? with
    | none => rfl
    | some b =>
      have : b ≠ a := by
        intro q
        subst q
        exact hj ((List.getElem?_inj (List.getElem?_eq_some_iff.mp hb).1 hn).mp (hb.trans hi.symm))
      simp only [Option.map_some, h2 b (List.mem_of_getElem? hb) this]
theorem wof_set {cA : Nat → ClassId} {tr : Ad → Nat} {h h' : Hp} {al : List Ad} {i : Nat} {a : Ad} {e : va_E} (hn : al.Nodup) (hi : al[i]? = some a) (h1 : cellOf cA tr h' a = e) (h2 : ∀ b, b ≠ a → cellOf cA tr h' b = cellOf cA tr h b) : (wof cA tr h al).set i (tr a, e) = wof cA tr h' al := wof_setM hn hi h1 (fun b _ hb => h2 b hb)
/-! writes -/
/-- ints of one cell, all at once -/
def sV (h : Hp) (k i : Nat) (f : Nat → Int32) : Hp := (fun k' i' => if k' = k ∧ i' = i then f else h.1 k' i', h.2.1, h.2.2)
def sX (h : Hp) (k i j : Nat) (x : Int32) : Hp := sV h k i (upd (h.1 k i) j x)
def sL (h : Hp) (k j : Nat) (x : Int64) : Hp := (h.1, fun k' => if k' = k then vp_updL (h.2.1 k) j x else h.2.1 k', h.2.2)
def sD (h : Hp) (x i : Nat) : Hp := (h.1, h.2.1, fun x' => if x' = x then i else h.2.2 x')
theorem sV_same {h : Hp} {k i : Nat} {f : Nat → Int32} : (sV h k i f).1 k i = f := if_pos ⟨rfl, rfl⟩
theorem sV_ne {h : Hp} {k i : Nat} {f : Nat → Int32} {a : Ad} (hn : a ≠ (k, i)) : (sV h k i f).1 a.1 a.2 = h.1 a.1 a.2 := if_neg (fun q => hn (by cases a; obtain ⟨rfl, rfl⟩ := q; rfl))
theorem sV_2 {h : Hp} {k i : Nat} {f : Nat → Int32} : (sV h k i f).2 = h.2 := rfl
theorem rfv_cong {tr : Ad → Nat} {h h' : Hp} {a : Ad} {k : Nat} {fd : Fdk} (h1 : h'.1 a.1 a.2 k = h.1 a.1 a.2 k) (h2 : h'.2.2 = h.2.2) : rfv tr h' a k fd = rfv tr h a k fd := by
  unfold rfv fval
  rw [h1, h2]
theorem cell_sV {cA : Nat → ClassId} {tr : Ad → Nat} {h : Hp} {k i : Nat} {f : Nat → Int32} (b : Ad) (hb : b ≠ (k, i)) : cellOf cA tr (sV h k i f) b = cellOf cA tr h b := by
  cases e : shp b.1 with
  | inl fds =>
    rw [cell_obj e, cell_obj e]
    congr 2
    apply List.ext_getElem?
    intro j
    rw [List.getElem?_mapIdx, List.getElem?_mapIdx]
    cases fds[j]? with
    | none => rfl
    | some fd => exact congrArg some (rfv_cong (by rw [sV_ne hb]) rfl)
  | inr q =>
    rw [cell_arr e, cell_arr e]
    congr 2
    unfold acon
    rw [sV_ne hb]
    rfl
/-! which refs are good -/
def wfV (al : List Ad) (v : AV) : Prop := ∀ a, v = .inr (.inr a) → a ∈ al ∨ (a.1 = 90 ∧ a.2 < 3)
def stok (al : List Ad) (st : List AV) : Prop := ∀ v, v ∈ st → wfV al v
theorem wfI {al : List Ad} {x : Int32} : wfV al (vI x) := fun _ h => by cases h
theorem wfL {al : List Ad} {x : Int64} : wfV al (vL x) := fun _ h => by cases h
theorem st1 {al : List Ad} {v : AV} {st : List AV} (h : stok al (v :: st)) : stok al st := fun w hw => h w (List.mem_cons_of_mem _ hw)
theorem st0 {al : List Ad} {v : AV} {st : List AV} (h : stok al (v :: st)) : wfV al v := h v List.mem_cons_self
theorem st2 {al : List Ad} {v w : AV} {st : List AV} (h : stok al (v :: w :: st)) : stok al st := st1 (st1 h)
theorem st3 {al : List Ad} {v w u : AV} {st : List AV} (h : stok al (v :: w :: u :: st)) : stok al st := st1 (st1 (st1 h))
theorem sc {al : List Ad} {v : AV} {st : List AV} (h : wfV al v) (hs : stok al st) : stok al (v :: st) := fun w hw => (List.mem_cons.mp hw).elim (fun e => e ▸ h) (hs w)
def clo (al : List Ad) (a : Ad) : Prop := (∀ fds, shp a.1 = .inl fds → ∀ fd, fd ∈ fds → fd.1 = 2 → wfV al (fval (fun _ _ _ => 0, fun _ _ => 0, fun _ => 0) a 0 fd)) ∧ ∀ q, shp a.1 = .inr q → 4 ≤ q.1 → ∀ i, i < aln q a.2 → (q.2.2.2.1, ein q a.2 i) ∈ al
/-- whose field a slot is -/
def slo : Nat → Nat × Nat
  | 0 => (0, 2)
  | 1 => (0, 3)
  | 2 => (12, 11)
  | 3 => (12, 17)
  | _ => (12, 18)
def dyO (a : Ad) : Prop := (a.1 = 43 → a.2 ≠ 7) ∧ (∀ q, shp a.1 = .inr q → q.1 = 1 → a.2 = 0) ∧ ∀ fds, shp a.1 = .inl fds → ∀ (j : Nat) (fd : Fdk), fds[j]? = some fd → 3 ≤ fd.1 → a.2 = 0 ∧ slo fd.2.1 = (a.1, j)
def Okal (al : List Ad) : Prop := al.Nodup ∧ (∀ a, a ∈ al → a.1 ≠ 90 ∧ dyO a) ∧ ∀ a, a ∈ al → clo al a
def hwf (al : List Ad) (h : Hp) : Prop := ∀ a, a ∈ al → ∀ fds, shp a.1 = .inl fds → ∀ fd, fd ∈ fds → (fd.1 = 3 → (fd.2.2.1, h.2.2 fd.2.1) ∈ al) ∧ (fd.1 = 4 → h.2.2 fd.2.1 = 7 ∨ (fd.2.2.1, h.2.2 fd.2.1) ∈ al)
theorem hwf_sV {al : List Ad} {h : Hp} {k i : Nat} {f : Nat → Int32} (w : hwf al h) : hwf al (sV h k i f) := w
theorem hwf_sL {al : List Ad} {h : Hp} {k j : Nat} {x : Int64} (w : hwf al h) : hwf al (sL h k j x) := w
/-! THE CONTEXT of a method's walk -/
abbrev MT : Type := MethodName × ByteArray × Nat × Option FieldType
def gt : List Cond := lw_tbl.filter goodWord
theorem gt_good {w : Cond} (h : w ∈ gt) : (w.onTables && w.keeps) = true ∨ ∃ ty, w = .arrayClass ty := good_of_word (List.mem_filter.mp h).2
def wsM (M : MT) : List Cond := .code M.1 M.2.1 M.2.2.1 M.2.2.2 :: gt
def rmk (k : Nat) : Room := { frames := k, cells := 0, slots := 0, locals := 60 * k }
def tysL (cA : Nat → ClassId) : List (ClassId × FieldType) := [(cA 0, .int), (cA 1, .long), (cA 2, .byte), (cA 3, .boolean), (cA 4, .object "ByTheThumbs$State"), (cA 5, .array .int)]
/-! the three String constants -/
def lenS : List Nat := [5, 5, 20]
def bytS : List (List Int32) := [[97, 43, 43, 111, 110], [112, 44, 110, 44, 100], [115, 42, 49, 48, 45, 104, 42, 54, 43, 119, 42, 50, 43, 40, 97, 62, 101, 41, 42, 51]]
def SX (al : List Ad) (tr : Ad → Nat) (U : State) : Prop := (∃ adV : Nat → Nat, vk_S 3 lenS bytS (fun i => tr (90, i)) adV (Aw al tr) U U.heap) ∧ vk_R RX11 25 "a++on" (tr (90, 0)) U ∧ vk_R RX1 11 "p,n,d" (tr (90, 1)) U ∧ vk_R RX6 24 "s*10-h*6+w*2+(a>e)*3" (tr (90, 2)) U
theorem SX.go {al : List Ad} {tr : Ad → Nat} {s U : State} {H : Heap} {locs : List Loc} (h : SX al tr s) (hS : va_S (Aw al tr) s.heap H locs) (hU : U.heap = H) (hW : s.WarmedH U.vm) : SX al tr U := by
  obtain ⟨⟨adV, h1⟩, h2, h3, h4⟩ := h
  subst hU
  exact ⟨⟨adV, vk_S.moved hW.alike (h1.kept hS.2.1)⟩, h2.warm hW, h3.warm hW, h4.warm hW⟩
theorem SX.call {al : List Ad} {tr : Ad → Nat} {U : State} {g : JFrame} {mk : MethodId} {a : Array Value} (h : SX al tr U) : SX al tr (U.calling g mk a) := by
  obtain ⟨⟨adV, h1⟩, h2, h3, h4⟩ := h
  exact ⟨⟨adV, vk_S.moved (u := U) (U := U.calling g mk a) (Vm.Alike.refl U.vm) h1⟩, h2.same rfl, h3.same rfl, h4.same rfl⟩
def PCx (al : List Ad) (D : va_G) (cA : Nat → ClassId) (tr : Ad → Nat) (h : Hp) (As : List AV) : Array Value → State → Prop := va_Pc (As.map (trV tr)) (fun U => va_P D vwCl (wof cA tr h al) U.heap ∧ va_K D vwCl (tysL cA) U ∧ SX al tr U)
def QCx (al : List Ad) (D : va_G) (cA : Nat → ClassId) (tr : Ad → Nat) (ret : Option FieldType) (P : AV → Hp → Prop) : Array Value → State → Outcome → State → Prop := fun _ st oc t => (∃ (v : AV) (h' : Hp), P v h' ∧ oc = .returned (ret.map fun _ => trV tr v) ∧ va_P D vwCl (wof cA tr h' al) t.heap ∧ hwf al h' ∧ wfV al v) ∧ va_F (Aw al tr) st t
/-- M's contract: from the heap h, with the arguments As, it returns, and P -/
def Ct (al : List Ad) (M : MT) (k : Nat) (As : List AV) (h : Hp) (P : AV → Hp → Prop) : Prop :=
  ∀ (l : Launch) (D : va_G) (cA : Nat → ClassId) (tr : Ad → Nat), Inj al tr → hwf al h → stok al As → Met l M.1 (wsM M) (rmk k) (PCx al D cA tr h As) (QCx al D cA tr M.2.2.2 P) 0 0 (Aw al tr)
def BX (al : List Ad) (M : MT) (p : Program) (s : State) (m : MethodId) (args : Array Value) (meth : Method) (c : Code) (D : va_G) (cA : Nat → ClassId) (tr : Ad → Nat) : Prop :=
  p.tables.exec = Jvm.exec ∧ c.code = M.2.1 ∧ c.maxLocals = M.2.2.1 ∧ meth.sig.returnType = M.2.2.2 ∧ meth.locks = false ∧ s.vm.findClass M.1.cls = some m.cls ∧ (∀ w ∈ gt, w.before args s = true) ∧ va_K D vwCl (tysL cA) s ∧ SX al tr s ∧ Inj al tr
/-- the locals: what is known of them -/
def lvok (al : List Ad) (tr : Ad → Nat) (n : Nat) (ls : Array Slot) (lv : List (Option AV)) : Prop := ls.size = n ∧ lv_wf ls ∧ ∀ (i : Nat) (v : AV), lv[i]? = some (some v) → ls[i]? = some (.val (trV tr v)) ∧ wfV al v
def WP (al : List Ad) (M : MT) (k : Nat) (P : AV → Hp → Prop) (pc : Nat) (lv : List (Option AV)) (st : List AV) (h : Hp) : Prop :=
  ∀ (p : Program) (l : Launch) (e : Env) (s : State) (m : MethodId) (args : Array Value) (below : List Frame) (meth : Method) (c : Code) (D : va_G) (cA : Nat → ClassId) (tr : Ad → Nat), BX al M p s m args meth c D cA tr →
    ∀ (H : Heap) (locs : List Loc) (ls : Array Slot), va_P D vwCl (wof cA tr h al) H → va_S (Aw al tr) s.heap H locs → hwf al h → lvok al tr M.2.2.1 ls lv → stok al st →
    W p l e (rmk k) s m args below meth c H locs 0 0 (MQ below (QCx al D cA tr M.2.2.2 P) args s 0 0 (Aw al tr)) (F0 m pc ls (st.map (trV tr)))
end
section
section OPS
variable {al : List Ad} {M : MT} {k : Nat} {P : AV → Hp → Prop} {pc : Nat} {lv : List (Option AV)} {st : List AV} {h : Hp}
theorem wp_iconst {n : Int} (hd : decode M.2.1 pc = .ok (.iconst n, 1)) (kk : WP al M k P (pc + 1) lv (vI (Int32.ofInt n) :: st) h) : WP al M k P pc lv (st) h := by
  intro p l e s m args below meth c D cA tr B H locs ls hP hS hw hl hs
  exact lv_iconst B.1 B.2.1 hd rfl (kk p l e s m args below meth c D cA tr B H locs ls hP hS hw hl (sc wfI hs))
theorem wp_bipush {n : Int} (hd : decode M.2.1 pc = .ok (.bipush n, 2)) (kk : WP al M k P (pc + 2) lv (vI ((Int8.ofInt n).toInt32) :: st) h) : WP al M k P pc lv (st) h := by
  intro p l e s m args below meth c D cA tr B H locs ls hP hS hw hl hs
  exact lv_bipush B.1 B.2.1 hd rfl (kk p l e s m args below meth c D cA tr B H locs ls hP hS hw hl (sc wfI hs))
theorem wp_sipush {n : Int} (hd : decode M.2.1 pc = .ok (.sipush n, 3)) (kk : WP al M k P (pc + 3) lv (vI ((Int16.ofInt n).toInt32) :: st) h) : WP al M k P pc lv (st) h := by
  intro p l e s m args below meth c D cA tr B H locs ls hP hS hw hl hs
  exact lv_sipush B.1 B.2.1 hd rfl (kk p l e s m args below meth c D cA tr B H locs ls hP hS hw hl (sc wfI hs))
theorem wp_lconst {n : Fin 2} (hd : decode M.2.1 pc = .ok (.lconst n, 1)) (kk : WP al M k P (pc + 1) lv (vL (Int64.ofNat (n : Nat)) :: st) h) : WP al M k P pc lv (st) h := by
  intro p l e s m args below meth c D cA tr B H locs ls hP hS hw hl hs
  exact lv_lconst B.1 B.2.1 hd rfl (kk p l e s m args below meth c D cA tr B H locs ls hP hS hw hl (sc wfL hs))
theorem wp_iadd {x y : Int32} (hd : decode M.2.1 pc = .ok (.iadd, 1)) (kk : WP al M k P (pc + 1) lv (vI (x + y) :: st) h) : WP al M k P pc lv (vI y :: vI x :: st) h := by
  intro p l e s m args below meth c D cA tr B H locs ls hP hS hw hl hs
  exact lv_iadd B.1 B.2.1 hd (kk p l e s m args below meth c D cA tr B H locs ls hP hS hw hl (sc wfI (st1 (st1 hs))))
theorem wp_isub {x y : Int32} (hd : decode M.2.1 pc = .ok (.isub, 1)) (kk : WP al M k P (pc + 1) lv (vI (x - y) :: st) h) : WP al M k P pc lv (vI y :: vI x :: st) h := by
  intro p l e s m args below meth c D cA tr B H locs ls hP hS hw hl hs
  exact lv_isub B.1 B.2.1 hd (kk p l e s m args below meth c D cA tr B H locs ls hP hS hw hl (sc wfI (st1 (st1 hs))))
theorem wp_imul {x y : Int32} (hd : decode M.2.1 pc = .ok (.imul, 1)) (kk : WP al M k P (pc + 1) lv (vI (x * y) :: st) h) : WP al M k P pc lv (vI y :: vI x :: st) h := by
  intro p l e s m args below meth c D cA tr B H locs ls hP hS hw hl hs
  exact lv_imul B.1 B.2.1 hd (kk p l e s m args below meth c D cA tr B H locs ls hP hS hw hl (sc wfI (st1 (st1 hs))))
theorem wp_iand {x y : Int32} (hd : decode M.2.1 pc = .ok (.iand, 1)) (kk : WP al M k P (pc + 1) lv (vI (x &&& y) :: st) h) : WP al M k P pc lv (vI y :: vI x :: st) h := by
  intro p l e s m args below meth c D cA tr B H locs ls hP hS hw hl hs
  exact lv_iand B.1 B.2.1 hd (kk p l e s m args below meth c D cA tr B H locs ls hP hS hw hl (sc wfI (st1 (st1 hs))))
theorem wp_ior {x y : Int32} (hd : decode M.2.1 pc = .ok (.ior, 1)) (kk : WP al M k P (pc + 1) lv (vI (x ||| y) :: st) h) : WP al M k P pc lv (vI y :: vI x :: st) h := by
  intro p l e s m args below meth c D cA tr B H locs ls hP hS hw hl hs
  exact lv_ior B.1 B.2.1 hd (kk p l e s m args below meth c D cA tr B H locs ls hP hS hw hl (sc wfI (st1 (st1 hs))))
theorem wp_ixor {x y : Int32} (hd : decode M.2.1 pc = .ok (.ixor, 1)) (kk : WP al M k P (pc + 1) lv (vI (x ^^^ y) :: st) h) : WP al M k P pc lv (vI y :: vI x :: st) h := by
  intro p l e s m args below meth c D cA tr B H locs ls hP hS hw hl hs
  exact lv_ixor B.1 B.2.1 hd (kk p l e s m args below meth c D cA tr B H locs ls hP hS hw hl (sc wfI (st1 (st1 hs))))
theorem wp_ishl {x y : Int32} (hd : decode M.2.1 pc = .ok (.ishl, 1)) (kk : WP al M k P (pc + 1) lv (vI (x <<< (y &&& 31)) :: st) h) : WP al M k P pc lv (vI y :: vI x :: st) h := by
  intro p l e s m args below meth c D cA tr B H locs ls hP hS hw hl hs
  exact lv_ishl B.1 B.2.1 hd (kk p l e s m args below meth c D cA tr B H locs ls hP hS hw hl (sc wfI (st1 (st1 hs))))
theorem wp_ishr {x y : Int32} (hd : decode M.2.1 pc = .ok (.ishr, 1)) (kk : WP al M k P (pc + 1) lv (vI (x >>> (y &&& 31)) :: st) h) : WP al M k P pc lv (vI y :: vI x :: st) h := by
  intro p l e s m args below meth c D cA tr B H locs ls hP hS hw hl hs
  exact lv_ishr B.1 B.2.1 hd (kk p l e s m args below meth c D cA tr B H locs ls hP hS hw hl (sc wfI (st1 (st1 hs))))
theorem wp_iushr {x y : Int32} (hd : decode M.2.1 pc = .ok (.iushr, 1)) (kk : WP al M k P (pc + 1) lv (vI ((x.toUInt32 >>> (y.toUInt32 &&& Int32.toUInt32 31)).toInt32) :: st) h) : WP al M k P pc lv (vI y :: vI x :: st) h := by
  intro p l e s m args below meth c D cA tr B H locs ls hP hS hw hl hs
  exact lv_iushr B.1 B.2.1 hd rfl (kk p l e s m args below meth c D cA tr B H locs ls hP hS hw hl (sc wfI (st1 (st1 hs))))
theorem wp_ineg {x : Int32} (hd : decode M.2.1 pc = .ok (.ineg, 1)) (kk : WP al M k P (pc + 1) lv (vI (-x) :: st) h) : WP al M k P pc lv (vI x :: st) h := by
  intro p l e s m args below meth c D cA tr B H locs ls hP hS hw hl hs
  exact lv_ineg B.1 B.2.1 hd (kk p l e s m args below meth c D cA tr B H locs ls hP hS hw hl (sc wfI (st1 hs)))
theorem wp_idiv {x y : Int32} (hd : decode M.2.1 pc = .ok (.idiv, 1)) (hne : ¬ y = 0) (kk : WP al M k P (pc + 1) lv (vI (x / y) :: st) h) : WP al M k P pc lv (vI y :: vI x :: st) h := by
  intro p l e s m args below meth c D cA tr B H locs ls hP hS hw hl hs
  exact lv_idiv B.1 B.2.1 hd hne (kk p l e s m args below meth c D cA tr B H locs ls hP hS hw hl (sc wfI (st1 (st1 hs))))
theorem wp_irem {x y : Int32} (hd : decode M.2.1 pc = .ok (.irem, 1)) (hne : ¬ y = 0) (kk : WP al M k P (pc + 1) lv (vI (x - x / y * y) :: st) h) : WP al M k P pc lv (vI y :: vI x :: st) h := by
  intro p l e s m args below meth c D cA tr B H locs ls hP hS hw hl hs
  exact lv_irem B.1 B.2.1 hd hne (kk p l e s m args below meth c D cA tr B H locs ls hP hS hw hl (sc wfI (st1 (st1 hs))))
theorem wp_ladd {x y : Int64} (hd : decode M.2.1 pc = .ok (.ladd, 1)) (kk : WP al M k P (pc + 1) lv (vL (x + y) :: st) h) : WP al M k P pc lv (vL y :: vL x :: st) h := by
  intro p l e s m args below meth c D cA tr B H locs ls hP hS hw hl hs
  exact lv_ladd B.1 B.2.1 hd (kk p l e s m args below meth c D cA tr B H locs ls hP hS hw hl (sc wfL (st1 (st1 hs))))
theorem wp_lsub {x y : Int64} (hd : decode M.2.1 pc = .ok (.lsub, 1)) (kk : WP al M k P (pc + 1) lv (vL (x - y) :: st) h) : WP al M k P pc lv (vL y :: vL x :: st) h := by
  intro p l e s m args below meth c D cA tr B H locs ls hP hS hw hl hs
  exact lv_lsub B.1 B.2.1 hd (kk p l e s m args below meth c D cA tr B H locs ls hP hS hw hl (sc wfL (st1 (st1 hs))))
theorem wp_lmul {x y : Int64} (hd : decode M.2.1 pc = .ok (.lmul, 1)) (kk : WP al M k P (pc + 1) lv (vL (x * y) :: st) h) : WP al M k P pc lv (vL y :: vL x :: st) h := by
  intro p l e s m args below meth c D cA tr B H locs ls hP hS hw hl hs
  exact lv_lmul B.1 B.2.1 hd (kk p l e s m args below meth c D cA tr B H locs ls hP hS hw hl (sc wfL (st1 (st1 hs))))
theorem wp_ldiv {x y : Int64} (hd : decode M.2.1 pc = .ok (.ldiv, 1)) (hne : ¬ y = 0) (kk : WP al M k P (pc + 1) lv (vL (x / y) :: st) h) : WP al M k P pc lv (vL y :: vL x :: st) h := by
  intro p l e s m args below meth c D cA tr B H locs ls hP hS hw hl hs
  exact lv_ldiv B.1 B.2.1 hd hne (kk p l e s m args below meth c D cA tr B H locs ls hP hS hw hl (sc wfL (st1 (st1 hs))))
theorem wp_lrem {x y : Int64} (hd : decode M.2.1 pc = .ok (.lrem, 1)) (hne : ¬ y = 0) (kk : WP al M k P (pc + 1) lv (vL (x - x / y * y) :: st) h) : WP al M k P pc lv (vL y :: vL x :: st) h := by
  intro p l e s m args below meth c D cA tr B H locs ls hP hS hw hl hs
  exact lv_lrem B.1 B.2.1 hd hne (kk p l e s m args below meth c D cA tr B H locs ls hP hS hw hl (sc wfL (st1 (st1 hs))))
theorem wp_lcmp {x y : Int64} (hd : decode M.2.1 pc = .ok (.lcmp, 1)) (kk : WP al M k P (pc + 1) lv (vI (lg_cmp x y) :: st) h) : WP al M k P pc lv (vL y :: vL x :: st) h := by
  intro p l e s m args below meth c D cA tr B H locs ls hP hS hw hl hs
  exact W.lcmp B.1 B.2.1 hd (kk p l e s m args below meth c D cA tr B H locs ls hP hS hw hl (sc wfI (st1 (st1 hs))))
theorem wp_i2l {x : Int32} (hd : decode M.2.1 pc = .ok (.i2l, 1)) (kk : WP al M k P (pc + 1) lv (vL (x.toInt64) :: st) h) : WP al M k P pc lv (vI x :: st) h := by
  intro p l e s m args below meth c D cA tr B H locs ls hP hS hw hl hs
  exact lv_i2l B.1 B.2.1 hd rfl (kk p l e s m args below meth c D cA tr B H locs ls hP hS hw hl (sc wfL (st1 hs)))
theorem wp_l2i {x : Int64} (hd : decode M.2.1 pc = .ok (.l2i, 1)) (kk : WP al M k P (pc + 1) lv (vI (x.toInt32) :: st) h) : WP al M k P pc lv (vL x :: st) h := by
  intro p l e s m args below meth c D cA tr B H locs ls hP hS hw hl hs
  exact lv_l2i B.1 B.2.1 hd rfl (kk p l e s m args below meth c D cA tr B H locs ls hP hS hw hl (sc wfI (st1 hs)))
theorem wp_i2b {x : Int32} (hd : decode M.2.1 pc = .ok (.i2b, 1)) (kk : WP al M k P (pc + 1) lv (vI (x.toInt8.toInt32) :: st) h) : WP al M k P pc lv (vI x :: st) h := by
  intro p l e s m args below meth c D cA tr B H locs ls hP hS hw hl hs
  exact lv_i2b B.1 B.2.1 hd rfl (kk p l e s m args below meth c D cA tr B H locs ls hP hS hw hl (sc wfI (st1 hs)))
theorem wp_i2s {x : Int32} (hd : decode M.2.1 pc = .ok (.i2s, 1)) (kk : WP al M k P (pc + 1) lv (vI (x.toInt16.toInt32) :: st) h) : WP al M k P pc lv (vI x :: st) h := by
  intro p l e s m args below meth c D cA tr B H locs ls hP hS hw hl hs
  exact lv_i2s B.1 B.2.1 hd rfl (kk p l e s m args below meth c D cA tr B H locs ls hP hS hw hl (sc wfI (st1 hs)))
def cat1 : AV → Bool
  | .inr (.inl _) => false
  | _ => true
theorem cat1_ok {tr : Ad → Nat} : ∀ {v : AV}, cat1 v = true → (trV tr v).category = 1
  | .inl _, _ => rfl
  | .inr (.inr _), _ => rfl
  | .inr (.inl _), h => by cases h
theorem cat2_ok {tr : Ad → Nat} {x : Int64} : (trV tr (vL x)).category = 2 := rfl
theorem wp_dup {v : AV} (hd : decode M.2.1 pc = .ok (.dup, 1)) (hc : cat1 v = true) (kk : WP al M k P (pc + 1) lv (v :: v :: st) h) : WP al M k P pc lv (v :: st) h := by
  intro p l e s m args below meth c D cA tr B H locs ls hP hS hw hl hs
  exact lv_dup B.1 B.2.1 hd (cat1_ok hc) (kk p l e s m args below meth c D cA tr B H locs ls hP hS hw hl (sc (st0 hs) hs))
theorem wp_pop {v : AV} (hd : decode M.2.1 pc = .ok (.pop, 1)) (hc : cat1 v = true) (kk : WP al M k P (pc + 1) lv (st) h) : WP al M k P pc lv (v :: st) h := by
  intro p l e s m args below meth c D cA tr B H locs ls hP hS hw hl hs
  exact lv_pop B.1 B.2.1 hd (cat1_ok hc) (kk p l e s m args below meth c D cA tr B H locs ls hP hS hw hl (st1 hs))
theorem wp_dup_x1 {v w : AV} (hd : decode M.2.1 pc = .ok (.dup_x1, 1)) (hc : cat1 v = true) (hc2 : cat1 w = true) (kk : WP al M k P (pc + 1) lv (v :: w :: v :: st) h) : WP al M k P pc lv (v :: w :: st) h := by
  intro p l e s m args below meth c D cA tr B H locs ls hP hS hw hl hs
  exact lv_dup_x1 B.1 B.2.1 hd (cat1_ok hc) (cat1_ok hc2) (kk p l e s m args below meth c D cA tr B H locs ls hP hS hw hl (sc (st0 hs) (sc (st0 (st1 hs)) (sc (st0 hs) (st2 hs)))))
theorem wp_dup2 {v w : AV} (hd : decode M.2.1 pc = .ok (.dup2, 1)) (hc : cat1 v = true) (hc2 : cat1 w = true) (kk : WP al M k P (pc + 1) lv (v :: w :: v :: w :: st) h) : WP al M k P pc lv (v :: w :: st) h := by
  intro p l e s m args below meth c D cA tr B H locs ls hP hS hw hl hs
  exact lv_dup2_11 B.1 B.2.1 hd (cat1_ok hc) (cat1_ok hc2) (kk p l e s m args below meth c D cA tr B H locs ls hP hS hw hl (sc (st0 hs) (sc (st0 (st1 hs)) hs)))
theorem wp_dup2_2 {x : Int64} (hd : decode M.2.1 pc = .ok (.dup2, 1)) (kk : WP al M k P (pc + 1) lv (vL x :: vL x :: st) h) : WP al M k P pc lv (vL x :: st) h := by
  intro p l e s m args below meth c D cA tr B H locs ls hP hS hw hl hs
  exact lv_dup2_2 B.1 B.2.1 hd cat2_ok (kk p l e s m args below meth c D cA tr B H locs ls hP hS hw hl (sc wfL hs))
theorem wp_iload {i : Nat} {x : Int32} (hd : decode M.2.1 pc = .ok (.iload i, 2)) (hx : lv[i]? = some (some (vI x))) (kk : WP al M k P (pc + 2) lv (vI x :: st) h) : WP al M k P pc lv st h := by
  intro p l e s m args below meth c D cA tr B H locs ls hP hS hw hl hs
  exact lv_iload B.1 B.2.1 hd (hl.2.2 i _ hx).1 (kk p l e s m args below meth c D cA tr B H locs ls hP hS hw hl (sc wfI hs))
theorem wp_iload_n {i : Fin 4} {x : Int32} (hd : decode M.2.1 pc = .ok (.iload_n i, 1)) (hx : lv[(i : Nat)]? = some (some (vI x))) (kk : WP al M k P (pc + 1) lv (vI x :: st) h) : WP al M k P pc lv st h := by
  intro p l e s m args below meth c D cA tr B H locs ls hP hS hw hl hs
  exact lv_iload_n B.1 B.2.1 hd rfl (hl.2.2 _ _ hx).1 (kk p l e s m args below meth c D cA tr B H locs ls hP hS hw hl (sc wfI hs))
theorem wp_lload {i : Nat} {x : Int64} (hd : decode M.2.1 pc = .ok (.lload i, 2)) (hx : lv[i]? = some (some (vL x))) (kk : WP al M k P (pc + 2) lv (vL x :: st) h) : WP al M k P pc lv st h := by
  intro p l e s m args below meth c D cA tr B H locs ls hP hS hw hl hs
  exact lv_lload B.1 B.2.1 hd (hl.2.2 i _ hx).1 (kk p l e s m args below meth c D cA tr B H locs ls hP hS hw hl (sc wfL hs))
theorem wp_lload_n {i : Fin 4} {x : Int64} (hd : decode M.2.1 pc = .ok (.lload_n i, 1)) (hx : lv[(i : Nat)]? = some (some (vL x))) (kk : WP al M k P (pc + 1) lv (vL x :: st) h) : WP al M k P pc lv st h := by
  intro p l e s m args below meth c D cA tr B H locs ls hP hS hw hl hs
  exact lv_lload_n B.1 B.2.1 hd rfl (hl.2.2 _ _ hx).1 (kk p l e s m args below meth c D cA tr B H locs ls hP hS hw hl (sc wfL hs))
theorem wp_aload {i : Nat} {a : Ad} (hd : decode M.2.1 pc = .ok (.aload i, 2)) (hx : lv[i]? = some (some (.inr (.inr a)))) (kk : WP al M k P (pc + 2) lv (.inr (.inr a) :: st) h) : WP al M k P pc lv st h := by
  intro p l e s m args below meth c D cA tr B H locs ls hP hS hw hl hs
  exact lv_aload B.1 B.2.1 hd (hl.2.2 i _ hx).1 (kk p l e s m args below meth c D cA tr B H locs ls hP hS hw hl (sc (hl.2.2 i _ hx).2 hs))
theorem wp_aload_n {i : Fin 4} {a : Ad} (hd : decode M.2.1 pc = .ok (.aload_n i, 1)) (hx : lv[(i : Nat)]? = some (some (.inr (.inr a)))) (kk : WP al M k P (pc + 1) lv (.inr (.inr a) :: st) h) : WP al M k P pc lv st h := by
  intro p l e s m args below meth c D cA tr B H locs ls hP hS hw hl hs
  exact lv_aload_n B.1 B.2.1 hd rfl (hl.2.2 _ _ hx).1 (kk p l e s m args below meth c D cA tr B H locs ls hP hS hw hl (sc (hl.2.2 _ _ hx).2 hs))
/-- a long ahead of place i is gone when i is written -/
def clr (lv : List (Option AV)) : Nat → List (Option AV)
  | 0 => lv
  | i + 1 => match lv[i]? with
    | some (some (.inr (.inl _))) => lv.set i none
    | _ => lv
def stl (lv : List (Option AV)) (i : Nat) (v : AV) : List (Option AV) := (clr lv i).set i (some v)
def stl2 (lv : List (Option AV)) (i : Nat) (v : AV) : List (Option AV) := ((clr lv i).set (i + 1) none).set i (some v)
theorem clr_at {lv : List (Option AV)} {i j : Nat} {v : AV} (hv : (clr lv i)[j]? = some (some v)) : lv[j]? = some (some v) ∧ ¬ (j + 1 = i ∧ cat1 v = false) := by
  cases i with
  | zero => exact ⟨hv, fun q => by omega⟩
  | succ i =>
    simp only [clr] at hv
    split at hv
    next w hw =>
      by_cases e : j = i
      · subst e
        rw [List.getElem?_set_self (List.getElem?_eq_some_iff.mp hw).1] at hv
        cases hv
      · rw [List.getElem?_set_ne (Ne.symm e)] at hv
        exact ⟨hv, fun q => by omega⟩
    next hw =>
      refine ⟨hv, fun q => ?_⟩
      obtain ⟨q1, q2⟩ := q
      have : j = i := by omega
      subst this
      match v, q2 with
      | .inr (.inl x), _ => exact hw x hv
      | .inl x, q2 => cases q2
      | .inr (.inr x), q2 => cases q2
theorem cat_of {tr : Ad → Nat} : ∀ (v : AV), ((trV tr v).category == 2) = true → cat1 v = false
  | .inl _, h => by cases h
  | .inr (.inr _), h => by cases h
  | .inr (.inl _), _ => rfl
def asl (tr : Ad → Nat) (lv : List (Option AV)) : List (Nat × Value) := (List.range lv.length).filterMap (fun i => match lv[i]? with
  | some (some v) => some (i, trV tr v)
  | _ => none)
theorem asl_in {tr : Ad → Nat} {lv : List (Option AV)} {i : Nat} {v : AV} (h : lv[i]? = some (some v)) : (i, trV tr v) ∈ asl tr lv :=
  List.mem_filterMap.mpr ⟨i, List.mem_range.mpr (List.getElem?_eq_some_iff.mp h).1, by simp only [h]⟩
theorem asl_has {al : List Ad} {tr : Ad → Nat} {n : Nat} {ls : Array Slot} {lv : List (Option AV)} (h : lvok al tr n ls lv) : lv_has ls n (asl tr lv) := by
  refine ⟨h.1, h.2.1, fun q hq => ?_⟩
  obtain ⟨i, -, hi⟩ := List.mem_filterMap.mp hq
  split at hi
  next v hv => cases hi; exact (h.2.2 i v hv).1
  next => cases hi
theorem lvok_st {al : List Ad} {tr : Ad → Nat} {n : Nat} {ls : Array Slot} {lv : List (Option AV)} {i : Nat} {v : AV} (h : lvok al tr n ls lv) (hv : wfV al v) {ls' : Array Slot} (h' : lv_has ls' n ((i, trV tr v) :: (asl tr lv).filter (fun q => !(q.1 == i) && !(q.1 + 1 == i && q.2.category == 2)))) : lvok al tr n ls' (stl lv i v) := by
  refine ⟨h'.1, h'.2.1, fun j w hw => ?_⟩
  unfold stl at hw
  by_cases e : j = i
  · subst e
    have : j < (clr lv j).length := by
      have := (List.getElem?_eq_some_iff.mp hw).1
      rwa [List.length_set] at this
    rw [List.getElem?_set_self this] at hw
    cases hw
    exact ⟨h'.2.2 _ List.mem_cons_self, hv⟩
  · rw [List.getElem?_set_ne (Ne.symm e)] at hw
    obtain ⟨h1, h2⟩ := clr_at hw
    refine ⟨h'.2.2 (j, trV tr w) (List.mem_cons_of_mem _ (List.mem_filter.mpr ⟨asl_in h1, ?_⟩)), (h.2.2 j w h1).2⟩
    have q1 : (j == i) = false := by simpa using e
    cases q2 : (j + 1 == i && (trV tr w).category == 2) with
    | false => simp [q1, q2]
    | true =>
      exfalso
      rw [Bool.and_eq_true] at q2
      exact h2 ⟨by simpa using q2.1, cat_of w q2.2⟩
theorem lvok_st2 {al : List Ad} {tr : Ad → Nat} {n : Nat} {ls : Array Slot} {lv : List (Option AV)} {i : Nat} {v : AV} (h : lvok al tr n ls lv) (hv : wfV al v) {ls' : Array Slot} (h' : lv_has ls' n ((i, trV tr v) :: (asl tr lv).filter (fun q => !(q.1 == i) && (!(q.1 == i + 1) && !(q.1 + 1 == i && q.2.category == 2))))) : lvok al tr n ls' (stl2 lv i v) := by
  refine ⟨h'.1, h'.2.1, fun j w hw => ?_⟩
  unfold stl2 at hw
  by_cases e : j = i
  · subst e
    have : j < ((clr lv j).set (j + 1) none).length := by
      have := (List.getElem?_eq_some_iff.mp hw).1
      rwa [List.length_set] at this
    rw [List.getElem?_set_self this] at hw
    cases hw
    exact ⟨h'.2.2 _ List.mem_cons_self, hv⟩
  · rw [List.getElem?_set_ne (Ne.symm e)] at hw
    by_cases e1 : j = i + 1
    · subst e1
      have : i + 1 < (clr lv i).length := by
        have := (List.getElem?_eq_some_iff.mp hw).1
        rwa [List.length_set] at this
      rw [List.getElem?_set_self this] at hw
      cases hw
    · rw [List.getElem?_set_ne (Ne.symm e1)] at hw
      obtain ⟨h1, h2⟩ := clr_at hw
      refine ⟨h'.2.2 (j, trV tr w) (List.mem_cons_of_mem _ (List.mem_filter.mpr ⟨asl_in h1, ?_⟩)), (h.2.2 j w h1).2⟩
      have q1 : (j == i) = false := by simpa using e
      have q3 : (j == i + 1) = false := by simpa using e1
      cases q2 : (j + 1 == i && (trV tr w).category == 2) with
      | false => simp [q1, q2, q3]
      | true =>
        exfalso
        rw [Bool.and_eq_true] at q2
        exact h2 ⟨by simpa using q2.1, cat_of w q2.2⟩
theorem wp_istore {i : Nat} {x : Int32} (hd : decode M.2.1 pc = .ok (.istore i, 2)) (hi : i < M.2.2.1) (kk : WP al M k P (pc + 2) (stl lv i (vI x)) st h) : WP al M k P pc lv ((vI x) :: st) h := by
  intro p l e s m args below meth c D cA tr B H locs ls hP hS hw hl hs
  exact lv_istore B.1 B.2.1 hd (asl_has hl) hi rfl (fun ls hl2 => kk p l e s m args below meth c D cA tr B H locs ls hP hS hw (lvok_st hl wfI hl2) (st1 hs))
theorem wp_istore_n {i : Fin 4} {x : Int32} (hd : decode M.2.1 pc = .ok (.istore_n i, 1)) (hi : (i : Nat) < M.2.2.1) (kk : WP al M k P (pc + 1) (stl lv i (vI x)) st h) : WP al M k P pc lv ((vI x) :: st) h := by
  intro p l e s m args below meth c D cA tr B H locs ls hP hS hw hl hs
  exact lv_istore_n B.1 B.2.1 hd rfl (asl_has hl) hi rfl (fun ls hl2 => kk p l e s m args below meth c D cA tr B H locs ls hP hS hw (lvok_st hl wfI hl2) (st1 hs))
theorem wp_lstore {i : Nat} {x : Int64} (hd : decode M.2.1 pc = .ok (.lstore i, 2)) (hi : i + 1 < M.2.2.1) (kk : WP al M k P (pc + 2) (stl2 lv i (vL x)) st h) : WP al M k P pc lv ((vL x) :: st) h := by
  intro p l e s m args below meth c D cA tr B H locs ls hP hS hw hl hs
  exact lv_lstore B.1 B.2.1 hd (asl_has hl) hi rfl (fun ls hl2 => kk p l e s m args below meth c D cA tr B H locs ls hP hS hw (lvok_st2 hl wfL hl2) (st1 hs))
theorem wp_lstore_n {i : Fin 4} {x : Int64} (hd : decode M.2.1 pc = .ok (.lstore_n i, 1)) (hi : (i : Nat) + 1 < M.2.2.1) (kk : WP al M k P (pc + 1) (stl2 lv i (vL x)) st h) : WP al M k P pc lv ((vL x) :: st) h := by
  intro p l e s m args below meth c D cA tr B H locs ls hP hS hw hl hs
  exact lv_lstore_n B.1 B.2.1 hd rfl (asl_has hl) hi rfl (fun ls hl2 => kk p l e s m args below meth c D cA tr B H locs ls hP hS hw (lvok_st2 hl wfL hl2) (st1 hs))
theorem wp_astore {i : Nat} {a : Ad} (hd : decode M.2.1 pc = .ok (.astore i, 2)) (hi : i < M.2.2.1) (kk : WP al M k P (pc + 2) (stl lv i (.inr (.inr a))) st h) : WP al M k P pc lv ((.inr (.inr a)) :: st) h := by
  intro p l e s m args below meth c D cA tr B H locs ls hP hS hw hl hs
  exact lv_astore B.1 B.2.1 hd (asl_has hl) hi rfl (fun ls hl2 => kk p l e s m args below meth c D cA tr B H locs ls hP hS hw (lvok_st hl (st0 hs) hl2) (st1 hs))
theorem wp_astore_n {i : Fin 4} {a : Ad} (hd : decode M.2.1 pc = .ok (.astore_n i, 1)) (hi : (i : Nat) < M.2.2.1) (kk : WP al M k P (pc + 1) (stl lv i (.inr (.inr a))) st h) : WP al M k P pc lv ((.inr (.inr a)) :: st) h := by
  intro p l e s m args below meth c D cA tr B H locs ls hP hS hw hl hs
  exact lv_astore_n B.1 B.2.1 hd rfl (asl_has hl) hi rfl (fun ls hl2 => kk p l e s m args below meth c D cA tr B H locs ls hP hS hw (lvok_st hl (st0 hs) hl2) (st1 hs))
theorem wp_iinc {i : Nat} {n : Int} {x : Int32} (hd : decode M.2.1 pc = .ok (.iinc i n, 3)) (hi : i < M.2.2.1) (hx : lv[i]? = some (some (vI x))) (kk : WP al M k P (pc + 3) (stl lv i (vI (x + Int32.ofInt n))) st h) : WP al M k P pc lv st h := by
  intro p l e s m args below meth c D cA tr B H locs ls hP hS hw hl hs
  obtain ⟨j, hj⟩ := List.getElem?_of_mem (asl_in (tr := tr) hx)
  exact lv_iinc B.1 B.2.1 hd (asl_has hl) hj rfl hi rfl (fun ls hl2 => kk p l e s m args below meth c D cA tr B H locs ls hP hS hw (lvok_st hl wfI hl2) hs)
theorem wp_if_eq {x : Int32} {off : Int} {t : Nat} (hd : decode M.2.1 pc = .ok (.ifCond .eq off, 3)) (ht : (pc : Int) + off = (t : Int)) (k1 : x = 0 → WP al M k P t lv st h) (k2 : ¬ x = 0 → WP al M k P (pc + 3) lv st h) : WP al M k P pc lv (vI x :: st) h := by
  intro p l e s m args below meth c D cA tr B H locs ls hP hS hw hl hs
  exact lv_if_eq B.1 B.2.1 hd ht (fun q => k1 q p l e s m args below meth c D cA tr B H locs ls hP hS hw hl (st1 hs)) (fun q => k2 q p l e s m args below meth c D cA tr B H locs ls hP hS hw hl (st1 hs))
theorem wp_if_ne {x : Int32} {off : Int} {t : Nat} (hd : decode M.2.1 pc = .ok (.ifCond .ne off, 3)) (ht : (pc : Int) + off = (t : Int)) (k1 : ¬ x = 0 → WP al M k P t lv st h) (k2 : x = 0 → WP al M k P (pc + 3) lv st h) : WP al M k P pc lv (vI x :: st) h := by
  intro p l e s m args below meth c D cA tr B H locs ls hP hS hw hl hs
  exact lv_if_ne B.1 B.2.1 hd ht (fun q => k1 q p l e s m args below meth c D cA tr B H locs ls hP hS hw hl (st1 hs)) (fun q => k2 q p l e s m args below meth c D cA tr B H locs ls hP hS hw hl (st1 hs))
theorem wp_if_lt {x : Int32} {off : Int} {t : Nat} (hd : decode M.2.1 pc = .ok (.ifCond .lt off, 3)) (ht : (pc : Int) + off = (t : Int)) (k1 : x < 0 → WP al M k P t lv st h) (k2 : ¬ x < 0 → WP al M k P (pc + 3) lv st h) : WP al M k P pc lv (vI x :: st) h := by
  intro p l e s m args below meth c D cA tr B H locs ls hP hS hw hl hs
  exact lv_if_lt B.1 B.2.1 hd ht (fun q => k1 q p l e s m args below meth c D cA tr B H locs ls hP hS hw hl (st1 hs)) (fun q => k2 q p l e s m args below meth c D cA tr B H locs ls hP hS hw hl (st1 hs))
theorem wp_if_ge {x : Int32} {off : Int} {t : Nat} (hd : decode M.2.1 pc = .ok (.ifCond .ge off, 3)) (ht : (pc : Int) + off = (t : Int)) (k1 : 0 ≤ x → WP al M k P t lv st h) (k2 : ¬ 0 ≤ x → WP al M k P (pc + 3) lv st h) : WP al M k P pc lv (vI x :: st) h := by
  intro p l e s m args below meth c D cA tr B H locs ls hP hS hw hl hs
  exact lv_if_ge B.1 B.2.1 hd ht (fun q => k1 q p l e s m args below meth c D cA tr B H locs ls hP hS hw hl (st1 hs)) (fun q => k2 q p l e s m args below meth c D cA tr B H locs ls hP hS hw hl (st1 hs))
theorem wp_if_gt {x : Int32} {off : Int} {t : Nat} (hd : decode M.2.1 pc = .ok (.ifCond .gt off, 3)) (ht : (pc : Int) + off = (t : Int)) (k1 : 0 < x → WP al M k P t lv st h) (k2 : ¬ 0 < x → WP al M k P (pc + 3) lv st h) : WP al M k P pc lv (vI x :: st) h := by
  intro p l e s m args below meth c D cA tr B H locs ls hP hS hw hl hs
  exact lv_if_gt B.1 B.2.1 hd ht (fun q => k1 q p l e s m args below meth c D cA tr B H locs ls hP hS hw hl (st1 hs)) (fun q => k2 q p l e s m args below meth c D cA tr B H locs ls hP hS hw hl (st1 hs))
theorem wp_if_le {x : Int32} {off : Int} {t : Nat} (hd : decode M.2.1 pc = .ok (.ifCond .le off, 3)) (ht : (pc : Int) + off = (t : Int)) (k1 : x ≤ 0 → WP al M k P t lv st h) (k2 : ¬ x ≤ 0 → WP al M k P (pc + 3) lv st h) : WP al M k P pc lv (vI x :: st) h := by
  intro p l e s m args below meth c D cA tr B H locs ls hP hS hw hl hs
  exact lv_if_le B.1 B.2.1 hd ht (fun q => k1 q p l e s m args below meth c D cA tr B H locs ls hP hS hw hl (st1 hs)) (fun q => k2 q p l e s m args below meth c D cA tr B H locs ls hP hS hw hl (st1 hs))
theorem wp_icmp_eq {x y : Int32} {off : Int} {t : Nat} (hd : decode M.2.1 pc = .ok (.if_icmp .eq off, 3)) (ht : (pc : Int) + off = (t : Int)) (k1 : x = y → WP al M k P t lv st h) (k2 : ¬ x = y → WP al M k P (pc + 3) lv st h) : WP al M k P pc lv (vI y :: vI x :: st) h := by
  intro p l e s m args below meth c D cA tr B H locs ls hP hS hw hl hs
  exact lv_icmp_eq B.1 B.2.1 hd ht (fun q => k1 q p l e s m args below meth c D cA tr B H locs ls hP hS hw hl (st2 hs)) (fun q => k2 q p l e s m args below meth c D cA tr B H locs ls hP hS hw hl (st2 hs))
theorem wp_icmp_ne {x y : Int32} {off : Int} {t : Nat} (hd : decode M.2.1 pc = .ok (.if_icmp .ne off, 3)) (ht : (pc : Int) + off = (t : Int)) (k1 : ¬ x = y → WP al M k P t lv st h) (k2 : x = y → WP al M k P (pc + 3) lv st h) : WP al M k P pc lv (vI y :: vI x :: st) h := by
  intro p l e s m args below meth c D cA tr B H locs ls hP hS hw hl hs
  exact lv_icmp_ne B.1 B.2.1 hd ht (fun q => k1 q p l e s m args below meth c D cA tr B H locs ls hP hS hw hl (st2 hs)) (fun q => k2 q p l e s m args below meth c D cA tr B H locs ls hP hS hw hl (st2 hs))
theorem wp_icmp_lt {x y : Int32} {off : Int} {t : Nat} (hd : decode M.2.1 pc = .ok (.if_icmp .lt off, 3)) (ht : (pc : Int) + off = (t : Int)) (k1 : x < y → WP al M k P t lv st h) (k2 : ¬ x < y → WP al M k P (pc + 3) lv st h) : WP al M k P pc lv (vI y :: vI x :: st) h := by
  intro p l e s m args below meth c D cA tr B H locs ls hP hS hw hl hs
  exact lv_icmp_lt B.1 B.2.1 hd ht (fun q => k1 q p l e s m args below meth c D cA tr B H locs ls hP hS hw hl (st2 hs)) (fun q => k2 q p l e s m args below meth c D cA tr B H locs ls hP hS hw hl (st2 hs))
theorem wp_icmp_ge {x y : Int32} {off : Int} {t : Nat} (hd : decode M.2.1 pc = .ok (.if_icmp .ge off, 3)) (ht : (pc : Int) + off = (t : Int)) (k1 : y ≤ x → WP al M k P t lv st h) (k2 : ¬ y ≤ x → WP al M k P (pc + 3) lv st h) : WP al M k P pc lv (vI y :: vI x :: st) h := by
  intro p l e s m args below meth c D cA tr B H locs ls hP hS hw hl hs
  exact lv_icmp_ge B.1 B.2.1 hd ht (fun q => k1 q p l e s m args below meth c D cA tr B H locs ls hP hS hw hl (st2 hs)) (fun q => k2 q p l e s m args below meth c D cA tr B H locs ls hP hS hw hl (st2 hs))
theorem wp_icmp_gt {x y : Int32} {off : Int} {t : Nat} (hd : decode M.2.1 pc = .ok (.if_icmp .gt off, 3)) (ht : (pc : Int) + off = (t : Int)) (k1 : y < x → WP al M k P t lv st h) (k2 : ¬ y < x → WP al M k P (pc + 3) lv st h) : WP al M k P pc lv (vI y :: vI x :: st) h := by
  intro p l e s m args below meth c D cA tr B H locs ls hP hS hw hl hs
  exact lv_icmp_gt B.1 B.2.1 hd ht (fun q => k1 q p l e s m args below meth c D cA tr B H locs ls hP hS hw hl (st2 hs)) (fun q => k2 q p l e s m args below meth c D cA tr B H locs ls hP hS hw hl (st2 hs))
theorem wp_icmp_le {x y : Int32} {off : Int} {t : Nat} (hd : decode M.2.1 pc = .ok (.if_icmp .le off, 3)) (ht : (pc : Int) + off = (t : Int)) (k1 : x ≤ y → WP al M k P t lv st h) (k2 : ¬ x ≤ y → WP al M k P (pc + 3) lv st h) : WP al M k P pc lv (vI y :: vI x :: st) h := by
  intro p l e s m args below meth c D cA tr B H locs ls hP hS hw hl hs
  exact lv_icmp_le B.1 B.2.1 hd ht (fun q => k1 q p l e s m args below meth c D cA tr B H locs ls hP hS hw hl (st2 hs)) (fun q => k2 q p l e s m args below meth c D cA tr B H locs ls hP hS hw hl (st2 hs))
theorem wp_goto {off : Int} {t : Nat} (hd : decode M.2.1 pc = .ok (.goto off, 3)) (ht : (pc : Int) + off = (t : Int)) (kk : WP al M k P t lv st h) : WP al M k P pc lv st h := by
  intro p l e s m args below meth c D cA tr B H locs ls hP hS hw hl hs
  exact lv_goto B.1 B.2.1 hd ht (kk p l e s m args below meth c D cA tr B H locs ls hP hS hw hl hs)
theorem wp_ldcw {idx : Nat} {x : Int32} (hd : decode M.2.1 pc = .ok (.ldc_w idx, 3)) (hg : Cond.constant M.1.cls idx x ∈ gt) (kk : WP al M k P (pc + 3) lv (vI x :: st) h) : WP al M k P pc lv st h := by
  intro p l e s m args below meth c D cA tr B H locs ls hP hS hw hl hs
  exact lv_ldcw B.1 B.2.1 B.2.2.2.2.2.1 (B.2.2.2.2.2.2.1 _ hg) hd (kk p l e s m args below meth c D cA tr B H locs ls hP hS hw hl (sc wfI hs))
theorem wp_ldc {idx : Nat} {x : Int32} (hd : decode M.2.1 pc = .ok (.ldc idx, 2)) (hg : Cond.constant M.1.cls idx x ∈ gt) (kk : WP al M k P (pc + 2) lv (vI x :: st) h) : WP al M k P pc lv st h := by
  intro p l e s m args below meth c D cA tr B H locs ls hP hS hw hl hs
  exact lv_ldc B.1 B.2.1 B.2.2.2.2.2.1 (B.2.2.2.2.2.2.1 _ hg) hd (kk p l e s m args below meth c D cA tr B H locs ls hP hS hw hl (sc wfI hs))
theorem wp_ldc2 {idx : Nat} {x : Int64} (hd : decode M.2.1 pc = .ok (.ldc2_w idx, 3)) (hg : Cond.constantLong M.1.cls idx x ∈ gt) (kk : WP al M k P (pc + 3) lv (vL x :: st) h) : WP al M k P pc lv st h := by
  intro p l e s m args below meth c D cA tr B H locs ls hP hS hw hl hs
  exact lv_ldc2 B.1 B.2.1 B.2.2.2.2.2.1 (B.2.2.2.2.2.2.1 _ hg) hd (kk p l e s m args below meth c D cA tr B H locs ls hP hS hw hl (sc wfL hs))
end OPS
end
section
/-! what the tables say of the classes -/
theorem cin_of {C : String} {T : u_T} {N : Nat} (h : ∀ w ∈ u_ws C T N, w ∈ lw_tbl ∧ goodWord w = true) : ∀ w ∈ u_ws C T N, w ∈ gt := fun w hw => List.mem_filter.mpr (h w hw)
set_option maxRecDepth 100000 in
theorem cin_0 : ∀ w ∈ u_ws RX0 TX0 5, w ∈ lw_tbl ∧ goodWord w = true := by decide +kernel
set_option maxRecDepth 100000 in
theorem cin_1 : ∀ w ∈ u_ws RX1 TX1 2, w ∈ lw_tbl ∧ goodWord w = true := by decide +kernel
set_option maxRecDepth 100000 in
theorem cin_2 : ∀ w ∈ u_ws RX2 TX2 3, w ∈ lw_tbl ∧ goodWord w = true := by decide +kernel
set_option maxRecDepth 100000 in
theorem cin_3 : ∀ w ∈ u_ws RX3 TX3 5, w ∈ lw_tbl ∧ goodWord w = true := by decide +kernel
set_option maxRecDepth 100000 in
theorem cin_4 : ∀ w ∈ u_ws RX4 TX4 5, w ∈ lw_tbl ∧ goodWord w = true := by decide +kernel
set_option maxRecDepth 100000 in
theorem cin_5 : ∀ w ∈ u_ws RX5 TX5 2, w ∈ lw_tbl ∧ goodWord w = true := by decide +kernel
set_option maxRecDepth 100000 in
theorem cin_6 : ∀ w ∈ u_ws RX6 TX6 3, w ∈ lw_tbl ∧ goodWord w = true := by decide +kernel
set_option maxRecDepth 100000 in
theorem cin_7 : ∀ w ∈ u_ws RX7 TX7 11, w ∈ lw_tbl ∧ goodWord w = true := by decide +kernel
set_option maxRecDepth 100000 in
theorem cin_8 : ∀ w ∈ u_ws RX8 TX8 1, w ∈ lw_tbl ∧ goodWord w = true := by decide +kernel
set_option maxRecDepth 100000 in
theorem cin_9 : ∀ w ∈ u_ws RX9 TX9 4, w ∈ lw_tbl ∧ goodWord w = true := by decide +kernel
set_option maxRecDepth 100000 in
theorem cin_10 : ∀ w ∈ u_ws RX10 TX10 5, w ∈ lw_tbl ∧ goodWord w = true := by decide +kernel
set_option maxRecDepth 100000 in
theorem cin_11 : ∀ w ∈ u_ws RX11 TX11 12, w ∈ lw_tbl ∧ goodWord w = true := by decide +kernel
set_option maxRecDepth 100000 in
theorem cin_12 : ∀ w ∈ u_ws RX12 TX12 49, w ∈ lw_tbl ∧ goodWord w = true := by decide +kernel
/-- a class of the list: its words are known, its fields have types and different names -/
def ClF (q : vw_C) : Prop := (∀ w ∈ u_ws q.1 q.2.1 q.2.2, w ∈ gt) ∧ ∃ ty : Nat → FieldType, (∀ k, k < q.2.2 → parseFieldDescriptor (q.2.1 k).2.2.1 = some (ty k)) ∧ ∀ a, a < q.2.2 → ∀ b, b < q.2.2 → a ≠ b → (q.2.1 a).2.1 ≠ (q.2.1 b).2.1
theorem cl_ok : ∀ (ci : Nat) (q : vw_C), vwCl[ci]? = some q → ClF q := by
  intro ci q hq
  match ci, hq with
  | 0, hq => cases hq; exact ⟨cin_of cin_0, tyX0, tyX0_ok, nmX0⟩
  | 1, hq => cases hq; exact ⟨cin_of cin_1, tyX1, tyX1_ok, nmX1⟩
  | 2, hq => cases hq; exact ⟨cin_of cin_2, tyX2, tyX2_ok, nmX2⟩
  | 3, hq => cases hq; exact ⟨cin_of cin_3, tyX3, tyX3_ok, nmX3⟩
  | 4, hq => cases hq; exact ⟨cin_of cin_4, tyX4, tyX4_ok, nmX4⟩
  | 5, hq => cases hq; exact ⟨cin_of cin_5, tyX5, tyX5_ok, nmX5⟩
  | 6, hq => cases hq; exact ⟨cin_of cin_6, tyX6, tyX6_ok, nmX6⟩
  | 7, hq => cases hq; exact ⟨cin_of cin_7, tyX7, tyX7_ok, nmX7⟩
  | 8, hq => cases hq; exact ⟨cin_of cin_8, tyX8, tyX8_ok, nmX8⟩
  | 9, hq => cases hq; exact ⟨cin_of cin_9, tyX9, tyX9_ok, nmX9⟩
  | 10, hq => cases hq; exact ⟨cin_of cin_10, tyX10, tyX10_ok, nmX10⟩
  | 11, hq => cases hq; exact ⟨cin_of cin_11, tyX11, tyX11_ok, nmX11⟩
  | 12, hq => cases hq; exact ⟨cin_of cin_12, tyX12, tyX12_ok, nmX12⟩
  | n + 13, hq => simp [vwCl] at hq
theorem cl_90 {ci : Nat} {q : vw_C} (hq : vwCl[ci]? = some q) : ci ≠ 90 := by
  intro e; subst e; simp [vwCl] at hq
theorem shp_90 {q : Aq} {kd : Nat} (h : shp kd = .inr q) : kd ≠ 90 := by
  intro e; subst e; cases h
theorem rfv_nn {tr : Ad → Nat} {h : Hp} {a : Ad} {k : Nat} {fd : Fdk} (h4 : fd.1 = 4 → ¬ h.2.2 fd.2.1 = 7) : rfv tr h a k fd = trV tr (fval h a k fd) := by
  unfold rfv
  split
  next e => rw [if_neg (h4 e)]
  next => rfl
theorem fval_wf {al : List Ad} {h : Hp} {a : Ad} {k : Nat} {fds : List Fdk} {fd : Fdk} (hok : Okal al) (ha : a ∈ al) (hw : hwf al h) (e : shp a.1 = .inl fds) (hf : fd ∈ fds) (h4 : fd.1 = 4 → ¬ h.2.2 fd.2.1 = 7) (h5 : fd.1 ≤ 4) : wfV al (fval h a k fd) := by
  obtain ⟨w3, w4⟩ := hw a ha fds e fd hf
  have w2 := (hok.2.2 a ha).1 fds e fd hf
  obtain ⟨t, x, y, z⟩ := fd
  rcases (by omega : t = 0 ∨ t = 1 ∨ t = 2 ∨ t = 3 ∨ t = 4) with rfl | rfl | rfl | rfl | rfl
  · exact wfI
  · exact wfI
  · exact w2 rfl
  · intro b hb
    cases hb
    exact Or.inl (w3 rfl)
  · intro b hb
    cases hb
    rcases w4 rfl with q | q
    · exact absurd q (h4 rfl)
    · exact Or.inl q
theorem obj_at {al : List Ad} {cA : Nat → ClassId} {tr : Ad → Nat} {h : Hp} {a : Ad} {fds : List Fdk} (ha : a ∈ al) (e : shp a.1 = .inl fds) : ∃ i : Nat, al[i]? = some a ∧ (wof cA tr h al)[i]? = some (tr a, .inr (a.1, fds.mapIdx (fun k fd => rfv tr h a k fd))) := by
  obtain ⟨i, h1, h2⟩ := wof_in (cA := cA) (tr := tr) (h := h) ha
  exact ⟨i, h1, by rw [h2, cell_obj e]⟩
theorem arr_at {al : List Ad} {cA : Nat → ClassId} {tr : Ad → Nat} {h : Hp} {a : Ad} {q : Aq} (ha : a ∈ al) (e : shp a.1 = .inr q) : ∃ i : Nat, al[i]? = some a ∧ (wof cA tr h al)[i]? = some (tr a, .inl (cA q.1, aln q a.2, acon tr h a q)) := by
  obtain ⟨i, h1, h2⟩ := wof_in (cA := cA) (tr := tr) (h := h) ha
  exact ⟨i, h1, by rw [h2, cell_arr e]⟩
theorem wf_obj {al : List Ad} {ci i : Nat} (h : wfV al (vR ci i)) (h9 : ci ≠ 90) : (ci, i) ∈ al := (h _ rfl).elim id (fun e => absurd e.1 h9)
theorem cell_put {cA : Nat → ClassId} {tr : Ad → Nat} {h : Hp} {a : Ad} {fds : List Fdk} {fd : Fdk} {kf : Nat} {x : Int32} (e : shp a.1 = .inl fds) (hf : fds[kf]? = some fd) (h1 : fd.1 ≤ 1) : cellOf cA tr (sX h a.1 a.2 kf x) a = .inr (a.1, (fds.mapIdx (fun k fd => rfv tr h a k fd)).set kf (.int x)) := by
  rw [cell_obj e]
  congr 2
  apply List.ext_getElem?
  intro j
  have hl := (List.getElem?_eq_some_iff.mp hf).1
  by_cases hj : j = kf
  · subst hj
    rw [List.getElem?_set_self (by rw [List.length_mapIdx]; exact hl), List.getElem?_mapIdx, hf]
    obtain ⟨t, y, z, u⟩ := fd
    have e2 : (sX h a.1 a.2 j x).1 a.1 a.2 j = x := by
      unfold sX
      rw [sV_same]
      exact if_pos rfl
    rcases (by omega : t = 0 ∨ t = 1) with rfl | rfl
    · exact congrArg some (congrArg Value.int e2)
    · exact congrArg some (congrArg Value.int e2)
  · rw [List.getElem?_set_ne (Ne.symm hj), List.getElem?_mapIdx, List.getElem?_mapIdx]
    cases fds[j]? with
    | none => rfl
    | some fd2 => exact congrArg some (rfv_cong (by unfold sX; rw [sV_same]; exact if_neg hj) rfl)
section HEAP
variable {al : List Ad} {M : MT} {k : Nat} {P : AV → Hp → Prop} {pc : Nat} {lv : List (Option AV)} {st : List AV} {h : Hp}
theorem wp_getfield {idx ci kf i : Nat} {fd : Fdk} {fds : List Fdk} {q : vw_C} (hok : Okal al) (hd : decode M.2.1 pc = .ok (.getfield idx, 3)) (hq : vwCl[ci]? = some q) (hk : kf < q.2.2) (hg : Cond.fieldLink M.1.cls idx (q.2.1 kf).1 (q.2.1 kf).2.1 (q.2.1 kf).2.2.1 ∈ gt) (hsh : shp ci = .inl fds) (hf : fds[kf]? = some fd) (h5 : fd.1 ≤ 4) (h4 : fd.1 = 4 → ¬ h.2.2 fd.2.1 = 7) (kk : WP al M k P (pc + 3) lv (fval h (ci, i) kf fd :: st) h) : WP al M k P pc lv (vR ci i :: st) h := by
  intro p l e s m args below meth c D cA tr B H locs ls hP hS hw hl hs
  have ha : (ci, i) ∈ al := wf_obj (st0 hs) (cl_90 hq)
  obtain ⟨j, hj, hcell⟩ := obj_at (cA := cA) (tr := tr) (h := h) ha hsh
  have hv : (fds.mapIdx (fun k fd => rfv tr h (ci, i) k fd))[kf]? = some (trV tr (fval h (ci, i) kf fd)) := by
    rw [List.getElem?_mapIdx, hf]
    exact congrArg some (rfv_nn h4)
  exact va_get B.1 B.2.1 B.2.2.2.2.2.2.1 (cl_ok ci q hq).1 B.2.2.2.2.2.1 B.2.2.2.2.2.2.2.1 hP j hcell hq kf hk (B.2.2.2.2.2.2.1 _ hg) (fun _ z => z) hv hd (kk p l e s m args below meth c D cA tr B H locs ls hP hS hw hl (sc (fval_wf hok ha hw hsh (List.mem_of_getElem? hf) h4 h5) (st1 hs)))
theorem wp_putf {idx ci kf i : Nat} {fd : Fdk} {fds : List Fdk} {q : vw_C} {x : Int32} {ty : FieldType} (hok : Okal al) (hd : decode M.2.1 pc = .ok (.putfield idx, 3)) (hq : vwCl[ci]? = some q) (hk : kf < q.2.2) (hg : Cond.fieldLink M.1.cls idx (q.2.1 kf).1 (q.2.1 kf).2.1 (q.2.1 kf).2.2.1 ∈ gt) (hsh : shp ci = .inl fds) (hf : fds[kf]? = some fd) (h1 : fd.1 ≤ 1) (hfin : (q.2.1 kf).2.2.2 = false) (hpd : parseFieldDescriptor (q.2.1 kf).2.2.1 = some ty) (hn : narrow ty (.int x) = .int x) (hft : fits ty (.int x) = true) (kk : WP al M k P (pc + 3) lv st (sX h ci i kf x)) : WP al M k P pc lv (vI x :: vR ci i :: st) h := by
  intro p l e s m args below meth c D cA tr B H locs ls hP hS hw hl hs
  have ha : (ci, i) ∈ al := wf_obj (st0 (st1 hs)) (cl_90 hq)
  obtain ⟨j, hj, hcell⟩ := obj_at (cA := cA) (tr := tr) (h := h) ha hsh
  obtain ⟨c1, ty0, c2, c3⟩ := cl_ok ci q hq
  have hl2 : kf < (fds.mapIdx (fun k fd => rfv tr h (ci, i) k fd)).length := by rw [List.length_mapIdx]; exact (List.getElem?_eq_some_iff.mp hf).1
  refine va_put B.1 B.2.1 B.2.2.2.2.2.2.1 c1 ty0 c2 c3 B.2.2.2.2.2.1 B.2.2.2.2.2.2.2.1 hP (wof_D hok.1 B.2.2.2.2.2.2.2.2.2) hS j hcell hq kf hk (B.2.2.2.2.2.2.1 _ hg) (fun _ z => z) hfin hpd hn hft hl2 hd (fun H1 locs1 hP1 _ hS1 => ?_)
  have e1 := wof_set (cA := cA) (tr := tr) (h := h) (h' := sX h ci i kf x) hok.1 hj (cell_put (a := (ci, i)) (x := x) hsh hf h1) (fun b hb => cell_sV b hb)
  exact kk p l e s m args below meth c D cA tr B H1 locs1 ls (e1 ▸ hP1) hS1 (hwf_sV hw) hl (st2 hs)
end HEAP
end
section
theorem acon_i {tr : Ad → Nat} {h : Hp} {a : Ad} {q : Aq} (e : q.1 = 0 ∨ q.1 = 2 ∨ q.1 = 3) : acon tr h a q = .inl (h.1 a.1 a.2) := by
  obtain ⟨t, r⟩ := q
  rcases e with e | e | e <;> (cases e; rfl)
theorem acon_l {tr : Ad → Nat} {h : Hp} {a : Ad} {q : Aq} (e : q.1 = 1) : acon tr h a q = .inr (.inl (h.2.1 a.1)) := by
  obtain ⟨t, r⟩ := q
  cases e; rfl
theorem acon_r {tr : Ad → Nat} {h : Hp} {a : Ad} {q : Aq} (e : q.1 = 4 ∨ q.1 = 5) : acon tr h a q = .inr (.inr (.inr (.inr (fun i => some (tr (q.2.2.2.1, ein q a.2 i)))))) := by
  obtain ⟨t, r⟩ := q
  rcases e with e | e <;> (cases e; rfl)
theorem cell_arrX {cA : Nat → ClassId} {tr : Ad → Nat} {h : Hp} {a : Ad} {q : Aq} {f : Nat → Int32} (e : shp a.1 = .inr q) (e1 : q.1 = 0 ∨ q.1 = 2 ∨ q.1 = 3) : cellOf cA tr (sV h a.1 a.2 f) a = .inl (cA q.1, aln q a.2, .inl f) := by
  rw [cell_arr e, acon_i e1, sV_same]
theorem cell_arrL {cA : Nat → ClassId} {tr : Ad → Nat} {h : Hp} {a : Ad} {q : Aq} {j : Nat} {x : Int64} (e : shp a.1 = .inr q) (e1 : q.1 = 1) : cellOf cA tr (sL h a.1 j x) a = .inl (cA q.1, aln q a.2, .inr (.inl (vp_updL (h.2.1 a.1) j x))) := by
  rw [cell_arr e, acon_l e1]
  have e2 : (sL h a.1 j x).2.1 a.1 = vp_updL (h.2.1 a.1) j x := if_pos rfl
  rw [e2]
theorem cell_sL {cA : Nat → ClassId} {tr : Ad → Nat} {h : Hp} {k j : Nat} {x : Int64} (b : Ad) (hb : b.1 ≠ k) : cellOf cA tr (sL h k j x) b = cellOf cA tr h b := by
  cases e : shp b.1 with
  | inl fds => rw [cell_obj e, cell_obj e]; rfl
  | inr q =>
    rw [cell_arr e, cell_arr e]
    congr 2
    unfold acon
    have e1 : (sL h k j x).2.1 b.1 = h.2.1 b.1 := if_neg hb
    rw [e1]
    rfl
section ARR
variable {al : List Ad} {M : MT} {k : Nat} {P : AV → Hp → Prop} {pc : Nat} {lv : List (Option AV)} {st : List AV} {h : Hp}
theorem wp_iaload {kd i : Nat} {q : Aq} {j : Int32} (hd : decode M.2.1 pc = .ok (.iaload, 1)) (hsh : shp kd = .inr q) (h0 : q.1 = 0) (hin : vp_in j (aln q i)) (kk : WP al M k P (pc + 1) lv (vI (h.1 kd i j.toNatClampNeg) :: st) h) : WP al M k P pc lv (vI j :: vR kd i :: st) h := by
  intro p l e s m args below meth c D cA tr B H locs ls hP hS hw hl hs
  have ha : (kd, i) ∈ al := wf_obj (st0 (st1 hs)) (shp_90 hsh)
  obtain ⟨j0, hj, hcell⟩ := arr_at (cA := cA) (tr := tr) (h := h) ha hsh
  rw [acon_i (Or.inl h0), h0] at hcell
  exact va_iald B.1 B.2.1 B.2.2.2.2.2.2.2.1 hP j0 0 hcell rfl hin hd (kk p l e s m args below meth c D cA tr B H locs ls hP hS hw hl (sc wfI (st2 hs)))
theorem wp_baload {kd i : Nat} {q : Aq} {j : Int32} (hd : decode M.2.1 pc = .ok (.baload, 1)) (hsh : shp kd = .inr q) (h0 : q.1 = 2 ∨ q.1 = 3) (hin : vp_in j (aln q i)) (kk : WP al M k P (pc + 1) lv (vI (h.1 kd i j.toNatClampNeg) :: st) h) : WP al M k P pc lv (vI j :: vR kd i :: st) h := by
  intro p l e s m args below meth c D cA tr B H locs ls hP hS hw hl hs
  have ha : (kd, i) ∈ al := wf_obj (st0 (st1 hs)) (shp_90 hsh)
  obtain ⟨j0, hj, hcell⟩ := arr_at (cA := cA) (tr := tr) (h := h) ha hsh
  rw [acon_i (Or.inr h0)] at hcell
  rcases h0 with h0 | h0
  · rw [h0] at hcell
    exact va_bald B.1 B.2.1 B.2.2.2.2.2.2.2.1 hP j0 2 hcell rfl hin hd (kk p l e s m args below meth c D cA tr B H locs ls hP hS hw hl (sc wfI (st2 hs)))
  · rw [h0] at hcell
    exact va_zald B.1 B.2.1 B.2.2.2.2.2.2.2.1 hP j0 3 hcell rfl hin hd (kk p l e s m args below meth c D cA tr B H locs ls hP hS hw hl (sc wfI (st2 hs)))
theorem wp_laload {kd i : Nat} {q : Aq} {j : Int32} (hd : decode M.2.1 pc = .ok (.laload, 1)) (hsh : shp kd = .inr q) (h0 : q.1 = 1) (hin : vp_in j (aln q i)) (kk : WP al M k P (pc + 1) lv (vL (h.2.1 kd j.toNatClampNeg) :: st) h) : WP al M k P pc lv (vI j :: vR kd i :: st) h := by
  intro p l e s m args below meth c D cA tr B H locs ls hP hS hw hl hs
  have ha : (kd, i) ∈ al := wf_obj (st0 (st1 hs)) (shp_90 hsh)
  obtain ⟨j0, hj, hcell⟩ := arr_at (cA := cA) (tr := tr) (h := h) ha hsh
  rw [acon_l h0, h0] at hcell
  exact va_lald B.1 B.2.1 B.2.2.2.2.2.2.2.1 hP j0 1 hcell rfl hin hd (kk p l e s m args below meth c D cA tr B H locs ls hP hS hw hl (sc wfL (st2 hs)))
theorem wp_aaload {kd i : Nat} {q : Aq} {j : Int32} (hok : Okal al) (hd : decode M.2.1 pc = .ok (.aaload, 1)) (hsh : shp kd = .inr q) (h0 : q.1 = 4 ∨ q.1 = 5) (hin : vp_in j (aln q i)) (kk : WP al M k P (pc + 1) lv (vR q.2.2.2.1 (ein q i j.toNatClampNeg) :: st) h) : WP al M k P pc lv (vI j :: vR kd i :: st) h := by
  intro p l e s m args below meth c D cA tr B H locs ls hP hS hw hl hs
  have ha : (kd, i) ∈ al := wf_obj (st0 (st1 hs)) (shp_90 hsh)
  obtain ⟨j0, hj, hcell⟩ := arr_at (cA := cA) (tr := tr) (h := h) ha hsh
  have hlt : j.toNatClampNeg < aln q i := Nat.not_le.mp fun z => hin (Or.inr z)
  have hwf1 : wfV al (vR q.2.2.2.1 (ein q i j.toNatClampNeg)) := by
    intro b hb
    cases hb
    exact Or.inl ((hok.2.2 _ ha).2 q hsh (by omega) _ hlt)
  have K := kk p l e s m args below meth c D cA tr B H locs ls hP hS hw hl (sc hwf1 (st2 hs))
  rw [acon_r h0] at hcell
  have hcl := hP j0 _ hcell
  have hin2 : ¬ (j < 0 ∨ (arrV (cA q.1) (aln q i) (fun z => va_rf (some (tr (q.2.2.2.1, ein q i z))))).slots.size ≤ j.toNatClampNeg) := by rw [arrV_size]; exact hin
  have hrd : (arrV (cA q.1) (aln q i) (fun z => va_rf (some (tr (q.2.2.2.1, ein q i z))))).slots[j.toNatClampNeg]? = some (.ref (tr (q.2.2.2.1, ein q i j.toNatClampNeg))) := by rw [arrV_read _ _ hlt]; rfl
  rcases h0 with h0 | h0
  · exact W.aald (v := .ref (tr (q.2.2.2.1, ein q i j.toNatClampNeg))) (ty := .object "ByTheThumbs$State") B.1 B.2.1 hcl (by rw [h0]; exact (B.2.2.2.2.2.2.2.1.2 4 _ rfl).1 _ _) rfl (fun z => by cases z) hin2 hrd rfl rfl hd K
  · exact W.aald (v := .ref (tr (q.2.2.2.1, ein q i j.toNatClampNeg))) (ty := .array .int) B.1 B.2.1 hcl (by rw [h0]; exact (B.2.2.2.2.2.2.2.1.2 5 _ rfl).1 _ _) rfl (fun z => by cases z) hin2 hrd rfl rfl hd K
theorem wp_iastore {kd i : Nat} {q : Aq} {j x : Int32} (hok : Okal al) (hd : decode M.2.1 pc = .ok (.iastore, 1)) (hsh : shp kd = .inr q) (h0 : q.1 = 0) (hin : vp_in j (aln q i)) (kk : WP al M k P (pc + 1) lv st (sX h kd i j.toNatClampNeg x)) : WP al M k P pc lv (vI x :: vI j :: vR kd i :: st) h := by
  intro p l e s m args below meth c D cA tr B H locs ls hP hS hw hl hs
  have ha : (kd, i) ∈ al := wf_obj (st0 (st2 hs)) (shp_90 hsh)
  obtain ⟨j0, hj, hcell⟩ := arr_at (cA := cA) (tr := tr) (h := h) ha hsh
  rw [acon_i (Or.inl h0), h0] at hcell
  refine va_iast B.1 B.2.1 B.2.2.2.2.2.2.2.1 hP (wof_D hok.1 B.2.2.2.2.2.2.2.2.2) hS j0 0 hcell rfl hin hd (fun H1 locs1 hP1 _ hS1 => ?_)
  have e1 := wof_set (cA := cA) (tr := tr) (h := h) (h' := sX h kd i j.toNatClampNeg x) hok.1 hj (cell_arrX (a := (kd, i)) hsh (Or.inl h0)) (fun b hb => cell_sV b hb)
  rw [h0] at e1
  exact kk p l e s m args below meth c D cA tr B H1 locs1 ls (e1 ▸ hP1) hS1 (hwf_sV hw) hl (st3 hs)
theorem wp_bastore {kd i : Nat} {q : Aq} {j x : Int32} (hok : Okal al) (hd : decode M.2.1 pc = .ok (.bastore, 1)) (hsh : shp kd = .inr q) (h0 : q.1 = 2) (hin : vp_in j (aln q i)) (kk : WP al M k P (pc + 1) lv st (sX h kd i j.toNatClampNeg (vp_nar .byte x))) : WP al M k P pc lv (vI x :: vI j :: vR kd i :: st) h := by
  intro p l e s m args below meth c D cA tr B H locs ls hP hS hw hl hs
  have ha : (kd, i) ∈ al := wf_obj (st0 (st2 hs)) (shp_90 hsh)
  obtain ⟨j0, hj, hcell⟩ := arr_at (cA := cA) (tr := tr) (h := h) ha hsh
  rw [acon_i (Or.inr (Or.inl h0)), h0] at hcell
  refine va_bast B.1 B.2.1 B.2.2.2.2.2.2.2.1 hP (wof_D hok.1 B.2.2.2.2.2.2.2.2.2) hS j0 2 hcell rfl hin hd (fun H1 locs1 hP1 _ hS1 => ?_)
  have e1 := wof_set (cA := cA) (tr := tr) (h := h) (h' := sX h kd i j.toNatClampNeg (vp_nar .byte x)) hok.1 hj (cell_arrX (a := (kd, i)) hsh (Or.inr (Or.inl h0))) (fun b hb => cell_sV b hb)
  rw [h0] at e1
  exact kk p l e s m args below meth c D cA tr B H1 locs1 ls (e1 ▸ hP1) hS1 (hwf_sV hw) hl (st3 hs)
theorem wp_zastore {kd i : Nat} {q : Aq} {j x : Int32} (hok : Okal al) (hd : decode M.2.1 pc = .ok (.bastore, 1)) (hsh : shp kd = .inr q) (h0 : q.1 = 3) (hin : vp_in j (aln q i)) (kk : WP al M k P (pc + 1) lv st (sX h kd i j.toNatClampNeg (vp_nar .boolean x))) : WP al M k P pc lv (vI x :: vI j :: vR kd i :: st) h := by
  intro p l e s m args below meth c D cA tr B H locs ls hP hS hw hl hs
  have ha : (kd, i) ∈ al := wf_obj (st0 (st2 hs)) (shp_90 hsh)
  obtain ⟨j0, hj, hcell⟩ := arr_at (cA := cA) (tr := tr) (h := h) ha hsh
  rw [acon_i (Or.inr (Or.inr h0)), h0] at hcell
  refine va_zast B.1 B.2.1 B.2.2.2.2.2.2.2.1 hP (wof_D hok.1 B.2.2.2.2.2.2.2.2.2) hS j0 3 hcell rfl hin hd (fun H1 locs1 hP1 _ hS1 => ?_)
  have e1 := wof_set (cA := cA) (tr := tr) (h := h) (h' := sX h kd i j.toNatClampNeg (vp_nar .boolean x)) hok.1 hj (cell_arrX (a := (kd, i)) hsh (Or.inr (Or.inr h0))) (fun b hb => cell_sV b hb)
  rw [h0] at e1
  exact kk p l e s m args below meth c D cA tr B H1 locs1 ls (e1 ▸ hP1) hS1 (hwf_sV hw) hl (st3 hs)
theorem wp_lastore {kd i : Nat} {q : Aq} {j : Int32} {x : Int64} (hok : Okal al) (hd : decode M.2.1 pc = .ok (.lastore, 1)) (hsh : shp kd = .inr q) (h0 : q.1 = 1) (hin : vp_in j (aln q i)) (kk : WP al M k P (pc + 1) lv st (sL h kd j.toNatClampNeg x)) : WP al M k P pc lv (vL x :: vI j :: vR kd i :: st) h := by
  intro p l e s m args below meth c D cA tr B H locs ls hP hS hw hl hs
  have ha : (kd, i) ∈ al := wf_obj (st0 (st2 hs)) (shp_90 hsh)
  obtain ⟨j0, hj, hcell⟩ := arr_at (cA := cA) (tr := tr) (h := h) ha hsh
  rw [acon_l h0, h0] at hcell
  have h1 : ∀ b, b ∈ al → b.1 = kd → b.2 = i := fun b hb e => by
    have z1 : i = 0 := (hok.2.1 _ ha).2.2.1 q hsh h0
    rw [z1]
    exact (hok.2.1 _ hb).2.2.1 q (by rw [e]; exact hsh) h0
  refine va_last B.1 B.2.1 B.2.2.2.2.2.2.2.1 hP (wof_D hok.1 B.2.2.2.2.2.2.2.2.2) hS j0 1 hcell rfl hin hd (fun H1 locs1 hP1 _ hS1 => ?_)
  have e1 := wof_setM (cA := cA) (tr := tr) (h := h) (h' := sL h kd j.toNatClampNeg x) hok.1 hj (cell_arrL (a := (kd, i)) hsh h0) (fun b hb hb2 => cell_sL b (fun z => hb2 (by cases b; cases z; exact congrArg _ (h1 _ hb rfl))))
  rw [h0] at e1
  exact kk p l e s m args below meth c D cA tr B H1 locs1 ls (e1 ▸ hP1) hS1 (hwf_sL hw) hl (st3 hs)
theorem wp_alen {kd i : Nat} {q : Aq} (hd : decode M.2.1 pc = .ok (.arraylength, 1)) (hsh : shp kd = .inr q) (h0 : q.1 = 1) (kk : WP al M k P (pc + 1) lv (vI (Int32.ofNat (aln q i)) :: st) h) : WP al M k P pc lv (vR kd i :: st) h := by
  intro p l e s m args below meth c D cA tr B H locs ls hP hS hw hl hs
  have ha : (kd, i) ∈ al := wf_obj (st0 hs) (shp_90 hsh)
  obtain ⟨j0, hj, hcell⟩ := arr_at (cA := cA) (tr := tr) (h := h) ha hsh
  rw [h0] at hcell
  exact va_alen B.1 B.2.1 B.2.2.2.2.2.2.2.1 hP j0 1 hcell rfl rfl hd (kk p l e s m args below meth c D cA tr B H locs ls hP hS hw hl (sc wfI (st1 hs)))
/-! returns -/
theorem wp_ireturn {x : Int32} (hd : decode M.2.1 pc = .ok (.ireturn, 1)) (hr : M.2.2.2 = some .int) (hp : P (vI x) h) : WP al M k P pc lv [vI x] h := by
  intro p l e s m args below meth c D cA tr B H locs ls hP hS hw hl hs
  exact W.iret B.1 B.2.1 (B.2.2.2.1.trans hr) (fun t ht _ => ⟨⟨vI x, h, hp, by rw [hr]; rfl, by rw [ht]; exact hP, hw, wfI⟩, hS.F ht⟩) (fun q hq => hS.2.2 q hq) hd B.2.2.2.2.1
theorem wp_zreturn {x : Int32} (hd : decode M.2.1 pc = .ok (.ireturn, 1)) (hr : M.2.2.2 = some .boolean) (hx : x = 0 ∨ x = 1) (hp : P (vI x) h) : WP al M k P pc lv [vI x] h := by
  intro p l e s m args below meth c D cA tr B H locs ls hP hS hw hl hs
  exact W.zret B.1 B.2.1 (B.2.2.2.1.trans hr) (by rcases hx with rfl | rfl <;> rfl) (fun t ht _ => ⟨⟨vI x, h, hp, by rw [hr]; rfl, by rw [ht]; exact hP, hw, wfI⟩, hS.F ht⟩) (fun q hq => hS.2.2 q hq) hd B.2.2.2.2.1
theorem wp_lreturn {x : Int64} (hd : decode M.2.1 pc = .ok (.lreturn, 1)) (hr : M.2.2.2 = some .long) (hp : P (vL x) h) : WP al M k P pc lv [vL x] h := by
  intro p l e s m args below meth c D cA tr B H locs ls hP hS hw hl hs
  exact W.lret B.1 B.2.1 (B.2.2.2.1.trans hr) (fun t ht _ => ⟨⟨vL x, h, hp, by rw [hr]; rfl, by rw [ht]; exact hP, hw, wfL⟩, hS.F ht⟩) (fun q hq => hS.2.2 q hq) hd B.2.2.2.2.1
theorem wp_return (hd : decode M.2.1 pc = .ok (.return_, 1)) (hr : M.2.2.2 = none) (hp : P (vI 0) h) : WP al M k P pc lv [] h := by
  intro p l e s m args below meth c D cA tr B H locs ls hP hS hw hl hs
  exact W.vret B.1 B.2.1 (B.2.2.2.1.trans hr) (fun t ht _ => ⟨⟨vI 0, h, hp, by rw [hr]; rfl, by rw [ht]; exact hP, hw, wfI⟩, hS.F ht⟩) (fun q hq => hS.2.2 q hq) hd B.2.2.2.2.1
end ARR
end
section
/-! calls -/
def catS (st : List AV) : Nat := (st.map fun v => match v with
  | .inr (.inl _) => 2
  | _ => 1).sum
theorem catS_ok {tr : Ad → Nat} : ∀ (st : List AV), ((st.map (trV tr)).map fun v => v.category).sum = catS st
  | [] => rfl
  | .inl x :: st => by
    have ih := catS_ok (tr := tr) st
    unfold catS at ih ⊢
    simp only [List.map_cons, List.sum_cons, ih]
    rfl
  | .inr (.inl x) :: st => by
    have ih := catS_ok (tr := tr) st
    unfold catS at ih ⊢
    simp only [List.map_cons, List.sum_cons, ih]
    rfl
  | .inr (.inr x) :: st => by
    have ih := catS_ok (tr := tr) st
    unfold catS at ih ⊢
    simp only [List.map_cons, List.sum_cons, ih]
    rfl
def retL (ret : Option FieldType) (v : AV) (rest : List AV) : List AV := match ret with
  | none => rest
  | some _ => v :: rest
theorem retL_ok {tr : Ad → Nat} {ret : Option FieldType} {v : AV} {rest : List AV} : (ret.map fun _ => trV tr v).toList ++ rest.map (trV tr) = (retL ret v rest).map (trV tr) := by
  cases ret <;> rfl
theorem retL_st {al : List Ad} {ret : Option FieldType} {v : AV} {rest : List AV} (hv : wfV al v) (hs : stok al rest) : stok al (retL ret v rest) := by
  cases ret with
  | none => exact hs
  | some _ => exact sc hv hs
theorem pcx_blind {al : List Ad} {D : va_G} {cA : Nat → ClassId} {tr : Ad → Nat} {h : Hp} {As : List AV} : FrameBlind (PCx al D cA tr h As) := fun a U g mk q => by
  obtain ⟨q0, qP, qK, qS⟩ := q
  exact ⟨q0, qP, va_K.moved (u := U) (U := U.calling g mk a) (Vm.Alike.refl U.vm) qK, qS.call⟩
theorem gin (M : MT) (h : Cond.code M.1 M.2.1 M.2.2.1 M.2.2.2 ∈ gt) : GoodIn gt (wsM M) := fun w hw => by
  rcases List.mem_cons.mp hw with rfl | hw
  · exact ⟨h, gt_good h⟩
  · exact ⟨hw, gt_good hw⟩
section CALLS
variable {al : List Ad} {M : MT} {k : Nat} {P : AV → Hp → Prop} {pc : Nat} {lv : List (Option AV)} {st : List AV} {h : Hp}
/-- behind a call -/
theorem run_go {p : Program} {l : Launch} {e : Env} {R : Room} {s : State} {m : MethodId} {args : Array Value} {below : List Frame} {meth : Method} {c : Code} {H : Heap} {locs : List Loc} {Q : State → Prop} {ls : Array Slot} {st0 : List Value} {a : Array Value} {D : va_G} {cA : Nat → ClassId} {tr : Ad → Nat} {ret : Option FieldType} {P' : AV → Hp → Prop} {rest : List AV}
    (hr : va_Run p l e R s m args below meth c H locs 0 0 0 0 (F0 m pc ls st0) (rest.map (trV tr)) (QCx al D cA tr ret P' a) (Aw al tr)) (hS : va_S (Aw al tr) s.heap H locs)
    (kk : ∀ (v : AV) (h' : Hp) (H1 : Heap) (locs1 : List Loc), P' v h' → va_P D vwCl (wof cA tr h' al) H1 → hwf al h' → wfV al v → va_S (Aw al tr) s.heap H1 locs1 → W p l e R s m args below meth c H1 locs1 0 0 Q (F0 m (pc + 3) ls ((retL ret v rest).map (trV tr)))) : W p l e R s m args below meth c H locs 0 0 Q (F0 m pc ls st0) := by
  intro T hT X
  obtain ⟨v0, st₀, t, T', L, h0, X', hL, e1, e2, ⟨⟨v, h', hp, hv, hP, hw, hwv⟩, hz, hk⟩, st⟩ := hr T hT X
  cases hv
  rw [h0] at hz hk
  obtain ⟨t2, a1, b1⟩ := kk v h' T'.heap (locs ++ L) hp (by rw [e1]; exact hP) hw hwv
    ⟨Nat.le_trans hS.1 (by rw [e1]; exact hz), fun q h1 h2 => by rw [e1, hk q (Nat.lt_of_lt_of_le h1 hS.1) h2]; exact hS.2.1 q h1 h2, fun q hq => by
      rcases List.mem_append.mp hq with z | z
      · exact hS.2.2 q z
      · exact hL q z⟩ T' rfl X'
  rw [← retL_ok] at a1
  exact ⟨t2, st t2 a1, b1⟩
theorem wp_callS {idx n : Nat} {Mc : MT} {As rest : List AV} {P' : AV → Hp → Prop} (hd : decode M.2.1 pc = .ok (.invokestatic idx, 3)) (hn : As.length = n) (g1 : Cond.methodLink M.1.cls idx Mc.1 ∈ gt) (g2 : Cond.static Mc.1 ∈ gt) (g3 : Cond.initialized Mc.1.cls ∈ gt) (g4 : Cond.code Mc.1 Mc.2.1 Mc.2.2.1 Mc.2.2.2 ∈ gt)
    (hy : Mc.1.cls ≠ "java/lang/invoke/MethodHandle" ∧ Mc.1.cls ≠ "java/lang/invoke/VarHandle" ∧ (parseMethodDescriptor Mc.1.desc).map (fun d => d.parameters.length) = some n) (hm : Mc.2.2.1 ≤ 41) (hcat : catS rest ≤ 8)
    (hC : Ct al Mc k As h P') (kk : ∀ v h', P' v h' → WP al M (k + 1) P (pc + 3) lv (retL Mc.2.2.2 v rest) h') : WP al M (k + 1) P pc lv (As.reverse ++ rest) h := by
  intro p l e s m args below meth c D cA tr B H locs ls hP hS hw hl hs
  have hsA : stok al As := fun v hv => hs v (List.mem_append_left _ (List.mem_reverse.mpr hv))
  have hsR : stok al rest := fun v hv => hs v (List.mem_append_right _ hv)
  have hts := B.2.2.2.2.2.2.1
  refine run_go (va_runS (Ts := gt) (As := As.map (trV tr)) (rest := rest.map (trV tr)) ⟨B.1, B.2.1, B.2.2.1, B.2.2.2.2.2.1, hts⟩ (hC l D cA tr B.2.2.2.2.2.2.2.2.2 hw hsA)
    ⟨callB_of n hts (gin Mc g4) rfl rfl rfl (hts _ g3) (hts _ g1) hy ⟨Nat.le_refl _, by show 8 + (Mc.2.2.1 + 11) + 60 * k ≤ 60 * (k + 1); omega⟩, hts _ g2⟩
    ⟨pcx_blind, fun U hU hW => ⟨rfl, by rw [hU]; exact hP, va_K.moved hW.alike B.2.2.2.2.2.2.2.1, B.2.2.2.2.2.2.2.2.1.go hS hU hW⟩⟩ rfl (by rw [List.length_map]; exact hn) hl.1 (by show List.map (trV tr) (As.reverse ++ rest) = _; rw [List.map_append, List.map_reverse])
    (lv_room (by rw [catS_ok]; exact hcat)) hd ⟨Nat.le_refl _, Nat.le_refl _⟩) hS (fun v h' H1 locs1 hp hP1 hw1 hv1 hS1 => ?_)
  exact kk v h' hp p l e s m args below meth c D cA tr B H1 locs1 ls hP1 hS1 hw1 hl (retL_st hv1 hsR)
theorem wp_callV {idx n ci i : Nat} {q : vw_C} {fds : List Fdk} {Mc : MT} {As rest : List AV} {P' : AV → Hp → Prop} (hd : decode M.2.1 pc = .ok (.invokevirtual idx, 3)) (hn : As.length = n) (hq : vwCl[ci]? = some q) (hqc : q.1 = Mc.1.cls) (hsh : shp ci = .inl fds) (g1 : Cond.methodLink M.1.cls idx Mc.1 ∈ gt) (g2 : Cond.instanceMethod Mc.1 ∈ gt) (g5 : Cond.selects Mc.1.cls Mc.1 Mc.1 ∈ gt) (g3 : Cond.initialized Mc.1.cls ∈ gt) (g4 : Cond.code Mc.1 Mc.2.1 Mc.2.2.1 Mc.2.2.2 ∈ gt)
    (hy : Mc.1.cls ≠ "java/lang/invoke/MethodHandle" ∧ Mc.1.cls ≠ "java/lang/invoke/VarHandle" ∧ (parseMethodDescriptor Mc.1.desc).map (fun d => d.parameters.length) = some n) (hm : Mc.2.2.1 ≤ 41) (hcat : catS rest ≤ 8)
    (hC : Ct al Mc k (vR ci i :: As) h P') (kk : ∀ v h', P' v h' → WP al M (k + 1) P (pc + 3) lv (retL Mc.2.2.2 v rest) h') : WP al M (k + 1) P pc lv (As.reverse ++ vR ci i :: rest) h := by
  intro p l e s m args below meth c D cA tr B H locs ls hP hS hw hl hs
  have hsA : stok al (vR ci i :: As) := fun v hv => (List.mem_cons.mp hv).elim (fun z => hs v (List.mem_append_right _ (List.mem_cons.mpr (Or.inl z)))) (fun z => hs v (List.mem_append_left _ (List.mem_reverse.mpr z)))
  have hsR : stok al rest := fun v hv => hs v (List.mem_append_right _ (List.mem_cons_of_mem _ hv))
  have hts := B.2.2.2.2.2.2.1
  have ha : (ci, i) ∈ al := wf_obj (st0 hsA) (cl_90 hq)
  obtain ⟨j0, hj, hcell⟩ := obj_at (cA := cA) (tr := tr) (h := h) ha hsh
  have hrecv := va_recv B.2.2.2.2.2.2.2.1 hP hq hcell
  rw [hqc] at hrecv
  refine run_go (va_runV (Ts := gt) (C := Mc.1.cls) (b := tr (ci, i)) (As := As.map (trV tr)) (rest := rest.map (trV tr)) ⟨B.1, B.2.1, B.2.2.1, B.2.2.2.2.2.1, hts⟩ (hC l D cA tr B.2.2.2.2.2.2.2.2.2 hw hsA)
    ⟨callB_of n hts (gin Mc g4) rfl rfl rfl (hts _ g3) (hts _ g1) hy ⟨Nat.le_refl _, by show 8 + (Mc.2.2.1 + 11) + 60 * k ≤ 60 * (k + 1); omega⟩, hts _ g2, hts _ g5⟩
    ⟨pcx_blind, hrecv, fun U hU hW => ⟨rfl, by rw [hU]; exact hP, va_K.moved hW.alike B.2.2.2.2.2.2.2.1, B.2.2.2.2.2.2.2.2.1.go hS hU hW⟩⟩ rfl (by rw [List.length_map]; exact hn) hl.1 (by show List.map (trV tr) (As.reverse ++ vR ci i :: rest) = _; rw [List.map_append, List.map_reverse]; rfl)
    (lv_room (by rw [catS_ok]; exact hcat)) hd ⟨Nat.le_refl _, Nat.le_refl _⟩) hS (fun v h' H1 locs1 hp hP1 hw1 hv1 hS1 => ?_)
  exact kk v h' hp p l e s m args below meth c D cA tr B H1 locs1 ls hP1 hS1 hw1 hl (retL_st hv1 hsR)
/-! the entry -/
def lvin : List AV → List (Option AV)
  | [] => []
  | .inr (.inl x) :: vs => some (vL x) :: none :: lvin vs
  | v :: vs => some v :: lvin vs
theorem lvin_at {tr : Ad → Nat} : ∀ (As : List AV) (o i : Nat) (v : AV), (lvin As)[i]? = some (some v) → (o + i, trV tr v) ∈ lv_args o (As.map (trV tr)) ∧ v ∈ As
  | [], o, i, v, h => by simp [lvin] at h
  | .inl x :: vs, o, i, v, h => by
    cases i with
    | zero => cases h; exact ⟨List.mem_cons_self, List.mem_cons_self⟩
    | succ i =>
      obtain ⟨h1, h2⟩ := lvin_at vs (o + 1) i v h
      exact ⟨List.mem_cons_of_mem _ (by rw [show o + (i + 1) = o + 1 + i by omega]; exact h1), List.mem_cons_of_mem _ h2⟩
  | .inr (.inr x) :: vs, o, i, v, h => by
    cases i with
    | zero => cases h; exact ⟨List.mem_cons_self, List.mem_cons_self⟩
    | succ i =>
      obtain ⟨h1, h2⟩ := lvin_at vs (o + 1) i v h
      exact ⟨List.mem_cons_of_mem _ (by rw [show o + (i + 1) = o + 1 + i by omega]; exact h1), List.mem_cons_of_mem _ h2⟩
  | .inr (.inl x) :: vs, o, i, v, h => by
    match i, h with
    | 0, h => cases h; exact ⟨List.mem_cons_self, List.mem_cons_self⟩
    | 1, h => cases h
    | i + 2, h =>
      obtain ⟨h1, h2⟩ := lvin_at vs (o + 2) i v h
      exact ⟨List.mem_cons_of_mem _ (by rw [show o + (i + 2) = o + 2 + i by omega]; exact h1), List.mem_cons_of_mem _ h2⟩
theorem lvin_len {tr : Ad → Nat} : ∀ (As : List AV), (lg_sl (As.map (trV tr))).length = (lvin As).length
  | [] => rfl
  | .inl x :: vs => by
    have ih := lvin_len (tr := tr) vs
    unfold lg_sl at ih ⊢
    simp only [List.map_cons, List.flatMap_cons, List.length_append, ih, lvin, List.length_cons]
    simp [trV, Value.category]
    omega
  | .inr (.inr x) :: vs => by
    have ih := lvin_len (tr := tr) vs
    unfold lg_sl at ih ⊢
    simp only [List.map_cons, List.flatMap_cons, List.length_append, ih, lvin, List.length_cons]
    simp [trV, Value.category]
    omega
  | .inr (.inl x) :: vs => by
    have ih := lvin_len (tr := tr) vs
    unfold lg_sl at ih ⊢
    simp only [List.map_cons, List.flatMap_cons, List.length_append, ih, lvin, List.length_cons]
    simp [trV, Value.category]
    omega
def lve (n : Nat) (As : List AV) : List (Option AV) := lvin As ++ List.replicate (n - (lvin As).length) none
theorem ct_wp {As : List AV} (hy : plainName M.1.cls = true) (hn : (lvin As).length ≤ M.2.2.1) (kk : WP al M k P 0 (lve M.2.2.1 As) [] h) : Ct al M k As h P := by
  intro l D cA tr hinj hw hs
  refine Met.ofW (cc := M.2.1) (maxL := M.2.2.1) (ret := M.2.2.2) hy rfl ?_
  intro p e s m args below meth c s₁ B hml hv
  obtain ⟨rfl, hP, hK, hX⟩ := hv
  have hts := atoms_spec (ws := wsM M) B.pre
  have hl := lv_entry (As.map (trV tr)) (n := M.2.2.1) (by rw [lvin_len]; exact hn)
  rw [lg_entry_eq]
  generalize (lg_sl (As.map (trV tr)) ++ List.replicate (M.2.2.1 - (lg_sl (As.map (trV tr))).length) Slot.unset).toArray = ls at hl ⊢
  refine kk p l e s m _ below meth c D cA tr ⟨B.exec, B.bytes, hml, B.returns, B.notSynchronized, findClass_of_methodNamed B.named, fun w hw => hts w (List.mem_cons_of_mem _ hw), hK, hX, hinj⟩ s.heap [] ls hP va_S.rf hw ⟨hl.1, hl.2.1, fun i v hv => ?_⟩ (fun v hv => by cases hv)
  unfold lve at hv
  have hlt : i < (lvin As).length := by
    rcases Nat.lt_or_ge i (lvin As).length with z | z
    · exact z
    · rw [List.getElem?_append_right z] at hv
      have := List.eq_of_mem_replicate (List.mem_of_getElem? hv)
      cases this
  rw [List.getElem?_append_left hlt] at hv
  obtain ⟨h1, h2⟩ := lvin_at (tr := tr) As 0 i v hv
  rw [Nat.zero_add] at h1
  exact ⟨hl.2.2 _ h1, hs v h2⟩
end CALLS
end
section
section MORE
variable {al : List Ad} {M : MT} {k : Nat} {P : AV → Hp → Prop} {pc : Nat} {lv : List (Option AV)} {st : List AV} {h : Hp}
theorem ml_ok {tr : Ad → Nat} {p : Program} {s : State} {m : MethodId} {args : Array Value} {meth : Method} {c : Code} {D : va_G} {cA : Nat → ClassId} {ls : Array Slot} (B : BX al M p s m args meth c D cA tr) (hl : lvok al tr M.2.2.1 ls lv) : c.maxLocals = ls.size := B.2.2.1.trans hl.1.symm
theorem wp_mmax {idx : Nat} {x y : Int32} (hd : decode M.2.1 pc = .ok (.invokestatic idx, 3)) (g1 : Cond.methodLink M.1.cls idx Lib.Math.max.name ∈ gt) (g2 : Cond.static Lib.Math.max.name ∈ gt) (g3 : Cond.initialized "java/lang/Math" ∈ gt) (g4 : Cond.code Lib.Math.max.name Lib.Math.max.code 2 (some .int) ∈ gt) (hcat : catS st ≤ 8) (kk : WP al M (k + 1) P (pc + 3) lv (vI (if x < y then y else x) :: st) h) : WP al M (k + 1) P pc lv (vI y :: vI x :: st) h := by
  intro p l e s m args below meth c D cA tr B H locs ls hP hS hw hl hs
  have hts := B.2.2.2.2.2.2.1
  exact va_mmax B.1 B.2.1 (ml_ok B hl) B.2.2.2.2.2.1 (hts _ g1) (hts _ g2) (hts _ g3) (hts _ g4) (by show 1 ≤ k + 1; omega) (by rw [catS_ok]; show catS st + 13 ≤ 60 * (k + 1); omega) (Nat.le_refl _) (Nat.le_refl _) hd (kk p l e s m args below meth c D cA tr B H locs ls hP hS hw hl (sc wfI (st2 hs)))
theorem wp_mmin {idx : Nat} {x y : Int32} (hd : decode M.2.1 pc = .ok (.invokestatic idx, 3)) (g1 : Cond.methodLink M.1.cls idx Lib.Math.min.name ∈ gt) (g2 : Cond.static Lib.Math.min.name ∈ gt) (g3 : Cond.initialized "java/lang/Math" ∈ gt) (g4 : Cond.code Lib.Math.min.name Lib.Math.min.code 2 (some .int) ∈ gt) (hcat : catS st ≤ 8) (kk : WP al M (k + 1) P (pc + 3) lv (vI (if y < x then y else x) :: st) h) : WP al M (k + 1) P pc lv (vI y :: vI x :: st) h := by
  intro p l e s m args below meth c D cA tr B H locs ls hP hS hw hl hs
  have hts := B.2.2.2.2.2.2.1
  exact va_mmin B.1 B.2.1 (ml_ok B hl) B.2.2.2.2.2.1 (hts _ g1) (hts _ g2) (hts _ g3) (hts _ g4) (by show 1 ≤ k + 1; omega) (by rw [catS_ok]; show catS st + 13 ≤ 60 * (k + 1); omega) (Nat.le_refl _) (Nat.le_refl _) hd (kk p l e s m args below meth c D cA tr B H locs ls hP hS hw hl (sc wfI (st2 hs)))
theorem wp_mmaxL {idx : Nat} {x y : Int64} (hd : decode M.2.1 pc = .ok (.invokestatic idx, 3)) (g1 : Cond.methodLink M.1.cls idx Lib.MathLoose.max_long.x ∈ gt) (g2 : Cond.static Lib.MathLoose.max_long.x ∈ gt) (g3 : Cond.initialized "java/lang/Math" ∈ gt) (g4 : Cond.code Lib.MathLoose.max_long.x Lib.MathLoose.max_long.code 4 (some .long) ∈ gt) (hcat : catS st ≤ 8) (kk : WP al M (k + 1) P (pc + 3) lv (vL (if y < x then x else y) :: st) h) : WP al M (k + 1) P pc lv (vL y :: vL x :: st) h := by
  intro p l e s m args below meth c D cA tr B H locs ls hP hS hw hl hs
  have hts := B.2.2.2.2.2.2.1
  exact va_mmax_long B.1 B.2.1 (ml_ok B hl) B.2.2.2.2.2.1 (hts _ g1) (hts _ g2) (hts _ g3) (hts _ g4) (by show 1 ≤ k + 1; omega) (by rw [catS_ok]; show catS st + 15 ≤ 60 * (k + 1); omega) (Nat.le_refl _) (Nat.le_refl _) hd (kk p l e s m args below meth c D cA tr B H locs ls hP hS hw hl (sc wfL (st2 hs)))
theorem wp_mminL {idx : Nat} {x y : Int64} (hd : decode M.2.1 pc = .ok (.invokestatic idx, 3)) (g1 : Cond.methodLink M.1.cls idx Lib.MathLoose.min_long.x ∈ gt) (g2 : Cond.static Lib.MathLoose.min_long.x ∈ gt) (g3 : Cond.initialized "java/lang/Math" ∈ gt) (g4 : Cond.code Lib.MathLoose.min_long.x Lib.MathLoose.min_long.code 4 (some .long) ∈ gt) (hcat : catS st ≤ 8) (kk : WP al M (k + 1) P (pc + 3) lv (vL (if y < x then y else x) :: st) h) : WP al M (k + 1) P pc lv (vL y :: vL x :: st) h := by
  intro p l e s m args below meth c D cA tr B H locs ls hP hS hw hl hs
  have hts := B.2.2.2.2.2.2.1
  exact va_mmin_long B.1 B.2.1 (ml_ok B hl) B.2.2.2.2.2.1 (hts _ g1) (hts _ g2) (hts _ g3) (hts _ g4) (by show 1 ≤ k + 1; omega) (by rw [catS_ok]; show catS st + 15 ≤ 60 * (k + 1); omega) (Nat.le_refl _) (Nat.le_refl _) hd (kk p l e s m args below meth c D cA tr B H locs ls hP hS hw hl (sc wfL (st2 hs)))
theorem wp_mabsL {idx : Nat} {x : Int64} (hd : decode M.2.1 pc = .ok (.invokestatic idx, 3)) (g1 : Cond.methodLink M.1.cls idx Lib.MathLoose.abs_long.x ∈ gt) (g2 : Cond.static Lib.MathLoose.abs_long.x ∈ gt) (g3 : Cond.initialized "java/lang/Math" ∈ gt) (g4 : Cond.code Lib.MathLoose.abs_long.x Lib.MathLoose.abs_long.code 2 (some .long) ∈ gt) (hcat : catS st ≤ 8) (kk : WP al M (k + 1) P (pc + 3) lv (vL (if 0 < x then x else -x) :: st) h) : WP al M (k + 1) P pc lv (vL x :: st) h := by
  intro p l e s m args below meth c D cA tr B H locs ls hP hS hw hl hs
  have hts := B.2.2.2.2.2.2.1
  exact va_mabs_long B.1 B.2.1 (ml_ok B hl) B.2.2.2.2.2.1 (hts _ g1) (hts _ g2) (hts _ g3) (hts _ g4) (by show 1 ≤ k + 1; omega) (by rw [catS_ok]; show catS st + 13 ≤ 60 * (k + 1); omega) (Nat.le_refl _) (Nat.le_refl _) hd (kk p l e s m args below meth c D cA tr B H locs ls hP hS hw hl (sc wfL (st1 hs)))
theorem wp_acopy {idx kd i kd2 i2 : Nat} {q q2 : Aq} {sp dp n : Int32} (hok : Okal al) (hd : decode M.2.1 pc = .ok (.invokestatic idx, 3)) (g1 : Cond.methodLink M.1.cls idx arraycopyName ∈ gt) (g2 : Cond.native arraycopyName ∈ gt) (g3 : Cond.static arraycopyName ∈ gt) (g4 : Cond.initialized "java/lang/System" ∈ gt) (hsh : shp kd = .inr q) (h0 : q.1 = 0) (hsh2 : shp kd2 = .inr q2) (h02 : q2.1 = 0)
    (h1 : ¬ sp < 0) (h2 : ¬ dp < 0) (h3 : ¬ n < 0) (h4 : sp.toNatClampNeg + n.toNatClampNeg ≤ aln q i) (h5 : dp.toNatClampNeg + n.toNatClampNeg ≤ aln q2 i2) (hcat : catS st ≤ 8) (kk : WP al M (k + 1) P (pc + 3) lv st (sV h kd2 i2 (va_cpy (h.1 kd i) (h.1 kd2 i2) sp.toNatClampNeg dp.toNatClampNeg n.toNatClampNeg))) : WP al M (k + 1) P pc lv (vI n :: vI dp :: vR kd2 i2 :: vI sp :: vR kd i :: st) h := by
  intro p l e s m args below meth c D cA tr B H locs ls hP hS hw hl hs
  have hts := B.2.2.2.2.2.2.1
  have ha : (kd, i) ∈ al := wf_obj (st0 (st1 (st3 hs))) (shp_90 hsh)
  have ha2 : (kd2, i2) ∈ al := wf_obj (st0 (st2 hs)) (shp_90 hsh2)
  obtain ⟨j0, hj, hcell⟩ := arr_at (cA := cA) (tr := tr) (h := h) ha hsh
  obtain ⟨j2, hj2, hcell2⟩ := arr_at (cA := cA) (tr := tr) (h := h) ha2 hsh2
  rw [acon_i (Or.inl h0), h0] at hcell
  rw [acon_i (Or.inl h02), h02] at hcell2
  have en : nativeFrameWords "java/lang/System" "arraycopy" 5 = 7 := by decide
  have hlo : ((st.map (trV tr)).map fun v => v.category).sum + (nativeFrameWords "java/lang/System" "arraycopy" 5 + 11) ≤ (rmk (k + 1)).locals := by
    rw [catS_ok, en]
    show catS st + (7 + 11) ≤ 60 * (k + 1)
    omega
  have hfr : 1 ≤ (rmk (k + 1)).frames := by show 1 ≤ k + 1; omega
  refine va_copyi B.1 B.2.1 (ml_ok B hl) B.2.2.2.2.2.1 (hts _ g1) (hts _ g2) (hts _ g3) (hts _ g4) B.2.2.2.2.2.2.2.1 hP (wof_D hok.1 B.2.2.2.2.2.2.2.2.2) hS j0 j2 0 0 hcell hcell2 rfl rfl rfl h1 h2 h3 h4 h5 (fun _ _ => rfl) hfr hlo hd (fun H1 locs1 hP1 _ hS1 => ?_)
  have e1 := wof_set (cA := cA) (tr := tr) (h := h) (h' := sV h kd2 i2 (va_cpy (h.1 kd i) (h.1 kd2 i2) sp.toNatClampNeg dp.toNatClampNeg n.toNatClampNeg)) hok.1 hj2 (cell_arrX (a := (kd2, i2)) hsh2 (Or.inl h02)) (fun b hb => cell_sV b hb)
  rw [h02] at e1
  exact kk p l e s m args below meth c D cA tr B H1 locs1 ls (e1 ▸ hP1) hS1 (hwf_sV hw) hl (st2 (st3 hs))
/-! switches -/
def swP (x : Int32) (d : Nat) : List (Nat × Nat) → (Nat → Prop) → Prop
  | [], K => K d
  | (v, t) :: r, K => (x = nI v → K t) ∧ (¬ x = nI v → swP x d r K)
theorem swP_get {x : Int32} {d : Nat} {K : Nat → Prop} : ∀ (cs : List (Nat × Nat)), (∀ q ∈ cs, q.1 < 2147483648) → swP x d cs K → (∃ q, q ∈ cs ∧ x.toInt = (q.1 : Int) ∧ K q.2 ∧ ∀ (dflt pcI : Int), (d : Int) = pcI + dflt → Op.lookupswitch.offset (cs.map (fun q => ((q.1 : Int), (q.2 : Int) - pcI))) dflt x.toInt = (q.2 : Int) - pcI) ∨ ((∀ q ∈ cs, x.toInt ≠ (q.1 : Int)) ∧ K d ∧ ∀ (dflt pcI : Int), (d : Int) = pcI + dflt → Op.lookupswitch.offset (cs.map (fun q => ((q.1 : Int), (q.2 : Int) - pcI))) dflt x.toInt = dflt)
  | [], _, hk => Or.inr ⟨fun _ h => (by cases h), hk, fun _ _ _ => rfl⟩
  | (v, t) :: r, hb, hk => by
    have hv : (nI v).toInt = (v : Int) := nI_toInt (hb (v, t) List.mem_cons_self)
    by_cases e : x = nI v
    · refine Or.inl ⟨(v, t), List.mem_cons_self, by rw [e, hv], hk.1 e, fun dflt pcI _ => ?_⟩
      rw [List.map_cons, Op.lookupswitch.offset_cons, if_pos (by rw [e, hv])]
    · have hne : ¬ (v : Int) = x.toInt := fun z => e (Int32.toInt_inj.mp (by rw [hv]; exact z.symm))
      rcases swP_get r (fun q hq => hb q (List.mem_cons_of_mem _ hq)) (hk.2 e) with ⟨q, h1, h2, h3, h4⟩ | ⟨h1, h2, h3⟩
      · exact Or.inl ⟨q, List.mem_cons_of_mem _ h1, h2, h3, fun dflt pcI z => by rw [List.map_cons, Op.lookupswitch.offset_cons, if_neg hne]; exact h4 dflt pcI z⟩
      · exact Or.inr ⟨fun q hq => (List.mem_cons.mp hq).elim (fun z => by subst z; exact fun y => hne y.symm) (h1 q), h2, fun dflt pcI z => by rw [List.map_cons, Op.lookupswitch.offset_cons, if_neg hne]; exact h3 dflt pcI z⟩
theorem swP_mono {x : Int32} {d : Nat} {K K' : Nat → Prop} (hK : ∀ t, K t → K' t) : ∀ (cs : List (Nat × Nat)), swP x d cs K → swP x d cs K'
  | [], h => hK _ h
  | (_, _) :: r, h => ⟨fun e => hK _ (h.1 e), fun e => swP_mono hK r (h.2 e)⟩
theorem wp_lookup {dflt : Int} {ps : Array (Int × Int)} {len : Nat} {x : Int32} {d : Nat} {cs : List (Nat × Nat)} (hd : decode M.2.1 pc = .ok (.lookupswitch dflt ps, len)) (hp : (ps.toList.zip (ps.toList.drop 1)).all (fun (a, next) => a.1 < next.1) = true) (hcs : cs.map (fun q => ((q.1 : Int), (q.2 : Int) - (pc : Int))) = ps.toList) (hb : ∀ q ∈ cs, q.1 < 2147483648) (hdd : (d : Int) = (pc : Int) + dflt) (kk : swP x d cs (fun t => WP al M k P t lv st h)) : WP al M k P pc lv (vI x :: st) h := by
  intro p l e s m args below meth c D cA tr B H locs ls hP hS hw hl hs
  rcases swP_get cs hb kk with ⟨q, _, _, h3, h4⟩ | ⟨_, h2, h3⟩
  · exact lv_lookup (tgt := q.2) (off := (q.2 : Int) - (pc : Int)) B.1 B.2.1 hd hp (by rw [← hcs]; exact h4 dflt _ hdd) (by omega) (h3 p l e s m args below meth c D cA tr B H locs ls hP hS hw hl (st1 hs))
  · exact lv_lookup (tgt := d) (off := dflt) B.1 B.2.1 hd hp (by rw [← hcs]; exact h3 dflt _ hdd) (by omega) (h2 p l e s m args below meth c D cA tr B H locs ls hP hS hw hl (st1 hs))
theorem wp_table {dflt lo hi : Int} {offs : Array Int} {len : Nat} {x : Int32} {d : Nat} {cs : List (Nat × Nat)} (hd : decode M.2.1 pc = .ok (.tableswitch dflt lo hi offs, len)) (hcs : cs = (offs.toList.zipIdx).map (fun q => ((lo + (q.2 : Int)).toNat, ((pc : Int) + q.1).toNat))) (hlo : 0 ≤ lo) (hof : ∀ o ∈ offs.toList, 0 ≤ (pc : Int) + o) (hhi : hi + 1 = lo + offs.size) (hb : ∀ q ∈ cs, q.1 < 2147483648) (hdd : (d : Int) = (pc : Int) + dflt) (kk : swP x d cs (fun t => WP al M k P t lv st h)) : WP al M k P pc lv (vI x :: st) h := by
  intro p l e s m args below meth c D cA tr B H locs ls hP hS hw hl hs
  rcases swP_get cs hb kk with ⟨q, h1, h2, h3, _⟩ | ⟨h1, h2, _⟩
  · rw [hcs] at h1
    obtain ⟨r, hr, rfl⟩ := List.mem_map.mp h1
    obtain ⟨o, i⟩ := r
    have hi1 := List.mem_zipIdx_iff_getElem?.mp hr
    have hlt : i < offs.size := by
      have := (List.getElem?_eq_some_iff.mp hi1).1
      rwa [Array.length_toList] at this
    have ho := hof o (List.mem_of_getElem? hi1)
    simp only at h2 h3 hi1
    refine lv_tableIn (tgt := ((pc : Int) + o).toNat) (off := o) B.1 B.2.1 hd (by omega) (by omega) ?_ (by omega) (h3 p l e s m args below meth c D cA tr B H locs ls hP hS hw hl (st1 hs))
    rw [show (x.toInt - lo).toNat = i by omega, ← Array.getElem?_toList]
    exact hi1
  · refine lv_tableOut (tgt := d) B.1 B.2.1 hd ?_ (by omega) (h2 p l e s m args below meth c D cA tr B H locs ls hP hS hw hl (st1 hs))
    rcases Int.lt_or_le x.toInt lo with z | z
    · exact Or.inl z
    · refine Or.inr ?_
      rcases Int.lt_or_le hi x.toInt with z2 | z2
      · exact z2
      · exfalso
        have hlt : (x.toInt - lo).toNat < offs.toList.length := by rw [Array.length_toList]; omega
        have hm : (((lo + (((x.toInt - lo).toNat : Nat) : Int)).toNat, ((pc : Int) + offs.toList[(x.toInt - lo).toNat]).toNat) : Nat × Nat) ∈ cs := by
          rw [hcs]
          exact List.mem_map.mpr ⟨(offs.toList[(x.toInt - lo).toNat], (x.toInt - lo).toNat), List.mem_zipIdx_iff_getElem?.mpr (List.getElem?_eq_getElem hlt), rfl⟩
        have := h1 _ hm
        simp only at this
        omega
/-! fields whose cells change, String constants -/
theorem cell_sD {cA : Nat → ClassId} {tr : Ad → Nat} {h : Hp} {x i : Nat} (b : Ad) (hb : ∀ fds, shp b.1 = .inl fds → ∀ (j : Nat) (fd : Fdk), fds[j]? = some fd → 3 ≤ fd.1 → fd.2.1 ≠ x) : cellOf cA tr (sD h x i) b = cellOf cA tr h b := by
  cases e : shp b.1 with
  | inl fds =>
    rw [cell_obj e, cell_obj e]
    congr 2
    apply List.ext_getElem?
    intro j
    rw [List.getElem?_mapIdx, List.getElem?_mapIdx]
    cases hf : fds[j]? with
    | none => rfl
    | some fd =>
      refine congrArg some ?_
      obtain ⟨t, x1, y, z⟩ := fd
      have hx := hb fds e j _ hf
      by_cases h3 : 3 ≤ t
      · have e1 : (sD h x i).2.2 x1 = h.2.2 x1 := if_neg (hx h3)
        unfold rfv fval
        simp only [e1]
        rfl
      · rcases (by omega : t = 0 ∨ t = 1 ∨ t = 2) with rfl | rfl | rfl <;> rfl
  | inr q => rw [cell_arr e, cell_arr e]; rfl
theorem wp_putd {idx ci kf i i2 t x y z : Nat} {fds : List Fdk} {q : vw_C} {ty : FieldType} (hok : Okal al) (hd : decode M.2.1 pc = .ok (.putfield idx, 3)) (hq : vwCl[ci]? = some q) (hk : kf < q.2.2) (hg : Cond.fieldLink M.1.cls idx (q.2.1 kf).1 (q.2.1 kf).2.1 (q.2.1 kf).2.2.1 ∈ gt) (hsh : shp ci = .inl fds) (hf : fds[kf]? = some (t, x, y, z)) (h3 : t = 3 ∨ (t = 4 ∧ y = 43)) (h9 : y ≠ 90) (hfin : (q.2.1 kf).2.2.2 = false) (hpd : parseFieldDescriptor (q.2.1 kf).2.2.1 = some ty) (hn : ∀ a, narrow ty (.ref a) = .ref a) (hft : ∀ a, fits ty (.ref a) = true) (kk : WP al M k P (pc + 3) lv st (sD h x i2)) : WP al M k P pc lv (vR y i2 :: vR ci i :: st) h := by
  intro p l e s m args below meth c D cA tr B H locs ls hP hS hw hl hs
  have ha : (ci, i) ∈ al := wf_obj (st0 (st1 hs)) (cl_90 hq)
  have hb : (y, i2) ∈ al := wf_obj (st0 hs) h9
  obtain ⟨j, hj, hcell⟩ := obj_at (cA := cA) (tr := tr) (h := h) ha hsh
  obtain ⟨c1, ty0, c2, c3⟩ := cl_ok ci q hq
  have hl2 : kf < (fds.mapIdx (fun k fd => rfv tr h (ci, i) k fd)).length := by rw [List.length_mapIdx]; exact (List.getElem?_eq_some_iff.mp hf).1
  have ht3 : 3 ≤ t := by omega
  have hme := (hok.2.1 _ ha).2.2.2 fds hsh kf _ hf ht3
  have huniq : ∀ b, b ∈ al → ∀ fds', shp b.1 = .inl fds' → ∀ (j' : Nat) (fd' : Fdk), fds'[j']? = some fd' → 3 ≤ fd'.1 → fd'.2.1 = x → b = (ci, i) ∧ j' = kf := by
    intro b hbal fds' e' j' fd' hf' h3' hx'
    have h1 := (hok.2.1 _ hbal).2.2.2 fds' e' j' _ hf' h3'
    rw [hx'] at h1
    have h2 : (b.1, j') = (ci, kf) := h1.2.symm.trans hme.2
    have hi0 : i = 0 := hme.1
    obtain ⟨e1, e2⟩ := Prod.mk.injEq .. ▸ h2
    exact ⟨Prod.ext e1 (h1.1.trans hi0.symm), e2⟩
  have hnn : t = 4 → ¬ i2 = 7 := by
    intro h4
    rcases h3 with h3 | ⟨-, rfl⟩
    · omega
    · exact (hok.2.1 _ hb).2.1 rfl
  refine va_put B.1 B.2.1 B.2.2.2.2.2.2.1 c1 ty0 c2 c3 B.2.2.2.2.2.1 B.2.2.2.2.2.2.2.1 hP (wof_D hok.1 B.2.2.2.2.2.2.2.2.2) hS j hcell hq kf hk (B.2.2.2.2.2.2.1 _ hg) (fun _ z => z) hfin hpd (hn _) (hft _) hl2 hd (fun H1 locs1 hP1 _ hS1 => ?_)
  have ec : cellOf cA tr (sD h x i2) (ci, i) = .inr (ci, (fds.mapIdx (fun k fd => rfv tr h (ci, i) k fd)).set kf (.ref (tr (y, i2)))) := by
    rw [cell_obj (a := (ci, i)) hsh]
    congr 2
    apply List.ext_getElem?
    intro j'
    have hl3 := (List.getElem?_eq_some_iff.mp hf).1
    by_cases hj' : j' = kf
    · subst hj'
      rw [List.getElem?_set_self hl2, List.getElem?_mapIdx, hf]
      refine congrArg some ?_
      have e1 : (sD h x i2).2.2 x = i2 := if_pos rfl
      rcases h3 with rfl | ⟨rfl, -⟩
      · show trV tr (vR y ((sD h x i2).2.2 x)) = _
        rw [e1]
        rfl
      · show (if (sD h x i2).2.2 x = 7 then Value.null else trV tr (vR y ((sD h x i2).2.2 x))) = _
        rw [e1, if_neg (hnn rfl)]
        rfl
    · rw [List.getElem?_set_ne (Ne.symm hj'), List.getElem?_mapIdx, List.getElem?_mapIdx]
      cases hf' : fds[j']? with
      | none => rfl
      | some fd =>
        refine congrArg some ?_
        obtain ⟨t', x', y', z'⟩ := fd
        by_cases h3' : 3 ≤ t'
        · have hne : x' ≠ x := fun z => hj' (huniq _ ha fds hsh j' _ hf' h3' z).2
          have e1 : (sD h x i2).2.2 x' = h.2.2 x' := if_neg hne
          unfold rfv fval
          simp only [e1]
          rfl
        · rcases (by omega : t' = 0 ∨ t' = 1 ∨ t' = 2) with rfl | rfl | rfl <;> rfl
  have e1 := wof_setM (cA := cA) (tr := tr) (h := h) (h' := sD h x i2) hok.1 hj ec (fun b hbal hbne => cell_sD b (fun fds' e' j' fd' hf' h3' hx' => hbne (huniq b hbal fds' e' j' fd' hf' h3' hx').1))
  refine kk p l e s m args below meth c D cA tr B H1 locs1 ls (e1 ▸ hP1) hS1 (fun a haal fds' e' fd' hf' => ?_) hl (st2 hs)
  have h0 := hw a haal fds' e' fd' hf'
  by_cases hx' : fd'.2.1 = x ∧ 3 ≤ fd'.1
  · obtain ⟨j', hj'⟩ := List.getElem?_of_mem hf'
    obtain ⟨ea, ej⟩ := huniq a haal fds' e' j' fd' hj' hx'.2 hx'.1
    subst ea
    subst ej
    cases hsh.symm.trans e'
    cases hf.symm.trans hj'
    have e2 : (sD h x i2).2.2 x = i2 := if_pos rfl
    exact ⟨fun _ => by show (y, (sD h x i2).2.2 x) ∈ al; rw [e2]; exact hb, fun _ => Or.inr (by show (y, (sD h x i2).2.2 x) ∈ al; rw [e2]; exact hb)⟩
  · refine ⟨fun h3' => ?_, fun h4' => ?_⟩
    · have e2 : (sD h x i2).2.2 fd'.2.1 = h.2.2 fd'.2.1 := if_neg (fun z => hx' ⟨z, by omega⟩)
      rw [e2]
      exact h0.1 h3'
    · have e2 : (sD h x i2).2.2 fd'.2.1 = h.2.2 fd'.2.1 := if_neg (fun z => hx' ⟨z, by omega⟩)
      rw [e2]
      exact h0.2 h4'
def strOK (own : String) (idx i : Nat) : Bool := match i with
  | 0 => decide (own = RX11 ∧ idx = 25)
  | 1 => decide (own = RX1 ∧ idx = 11)
  | 2 => decide (own = RX6 ∧ idx = 24)
  | _ => false
theorem wp_ldcs {idx i : Nat} (hd : decode M.2.1 pc = .ok (.ldc idx, 2)) (hi : strOK M.1.cls idx i = true) (kk : WP al M k P (pc + 2) lv (vR 90 i :: st) h) : WP al M k P pc lv st h := by
  intro p l e s m args below meth c D cA tr B H locs ls hP hS hw hl hs
  have hX := B.2.2.2.2.2.2.2.2.1
  have hi3 : i < 3 := by
    rcases Nat.lt_or_ge i 3 with z | z
    · exact z
    · obtain ⟨j, rfl⟩ : ∃ j, i = j + 3 := ⟨i - 3, by omega⟩
      cases hi
  have K := kk p l e s m args below meth c D cA tr B H locs ls hP hS hw hl (sc (fun a ha => by cases ha; exact Or.inr ⟨rfl, hi3⟩) hs)
  match i, hi, K with
  | 0, hi, K =>
    obtain ⟨h1, rfl⟩ := of_decide_eq_true hi
    exact va_ldcS B.1 B.2.1 (own := RX11) (by rw [← h1]; exact B.2.2.2.2.2.1) hX.2.1 hd K
  | 1, hi, K =>
    obtain ⟨h1, rfl⟩ := of_decide_eq_true hi
    exact va_ldcS B.1 B.2.1 (own := RX1) (by rw [← h1]; exact B.2.2.2.2.2.1) hX.2.2.1 hd K
  | 2, hi, K =>
    obtain ⟨h1, rfl⟩ := of_decide_eq_true hi
    exact va_ldcS B.1 B.2.1 (own := RX6) (by rw [← h1]; exact B.2.2.2.2.2.1) hX.2.2.2 hd K
  | n + 3, hi, K => cases hi
theorem wp_callStr {idx n i : Nat} {Mc : MT} {As rest : List AV} {P' : AV → Hp → Prop} (hok : Okal al) (hd : decode M.2.1 pc = .ok (.invokevirtual idx, 3)) (hn : As.length = n) (hqc : "java/lang/String" = Mc.1.cls) (g1 : Cond.methodLink M.1.cls idx Mc.1 ∈ gt) (g2 : Cond.instanceMethod Mc.1 ∈ gt) (g5 : Cond.selects Mc.1.cls Mc.1 Mc.1 ∈ gt) (g3 : Cond.initialized Mc.1.cls ∈ gt) (g4 : Cond.code Mc.1 Mc.2.1 Mc.2.2.1 Mc.2.2.2 ∈ gt)
    (hy : Mc.1.cls ≠ "java/lang/invoke/MethodHandle" ∧ Mc.1.cls ≠ "java/lang/invoke/VarHandle" ∧ (parseMethodDescriptor Mc.1.desc).map (fun d => d.parameters.length) = some n) (hm : Mc.2.2.1 ≤ 41) (hcat : catS rest ≤ 8)
    (hC : Ct al Mc k (vR 90 i :: As) h P') (kk : ∀ v h', P' v h' → WP al M (k + 1) P (pc + 3) lv (retL Mc.2.2.2 v rest) h') : WP al M (k + 1) P pc lv (As.reverse ++ vR 90 i :: rest) h := by
  intro p l e s m args below meth c D cA tr B H locs ls hP hS hw hl hs
  have hsA : stok al (vR 90 i :: As) := fun v hv => (List.mem_cons.mp hv).elim (fun z => hs v (List.mem_append_right _ (List.mem_cons.mpr (Or.inl z)))) (fun z => hs v (List.mem_append_left _ (List.mem_reverse.mpr z)))
  have hsR : stok al rest := fun v hv => hs v (List.mem_append_right _ (List.mem_cons_of_mem _ hv))
  have hts := B.2.2.2.2.2.2.1
  have hi3 : i < 3 := by
    rcases st0 hsA _ rfl with z | z
    · exact absurd rfl (hok.2.1 _ z).1
    · exact z.2
  obtain ⟨⟨adV, hE⟩, -⟩ := B.2.2.2.2.2.2.2.2.1
  have hrecv := vk_recv hE hi3 hS
  rw [hqc] at hrecv
  refine run_go (va_runV (Ts := gt) (C := Mc.1.cls) (b := tr (90, i)) (As := As.map (trV tr)) (rest := rest.map (trV tr)) ⟨B.1, B.2.1, B.2.2.1, B.2.2.2.2.2.1, hts⟩ (hC l D cA tr B.2.2.2.2.2.2.2.2.2 hw hsA)
    ⟨callB_of n hts (gin Mc g4) rfl rfl rfl (hts _ g3) (hts _ g1) hy ⟨Nat.le_refl _, by show 8 + (Mc.2.2.1 + 11) + 60 * k ≤ 60 * (k + 1); omega⟩, hts _ g2, hts _ g5⟩
    ⟨pcx_blind, hrecv, fun U hU hW => ⟨rfl, by rw [hU]; exact hP, va_K.moved hW.alike B.2.2.2.2.2.2.2.1, B.2.2.2.2.2.2.2.2.1.go hS hU hW⟩⟩ rfl (by rw [List.length_map]; exact hn) hl.1 (by show List.map (trV tr) (As.reverse ++ vR 90 i :: rest) = _; rw [List.map_append, List.map_reverse]; rfl)
    (lv_room (by rw [catS_ok]; exact hcat)) hd ⟨Nat.le_refl _, Nat.le_refl _⟩) hS (fun v h' H1 locs1 hp hP1 hw1 hv1 hS1 => ?_)
  exact kk v h' hp p l e s m args below meth c D cA tr B H1 locs1 ls hP1 hS1 hw1 hl (retL_st hv1 hsR)
end MORE
end
section
/-! THE WALK: a method's instructions as a table; what a stretch of them asks -/
abbrev Op : Type := Nat × Instr × Nat × List Nat × MT
def noM : MT := (yX0_init, cX0_init, 0, none)
def jmp : List Op → Nat → List Op
  | [], _ => []
  | o :: r, t => match o.1 == t with
    | true => o :: r
    | false => jmp r t
def stopAt : List (Nat × List Bool) → Nat → Option (List Bool)
  | [], _ => none
  | q :: r, t => match q.1 == t with
    | true => some q.2
    | false => stopAt r t
def msk : List Bool → List (Option AV) → List (Option AV)
  | _, [] => []
  | [], _ :: vs => none :: msk [] vs
  | true :: bs, v :: vs => v :: msk bs vs
  | false :: bs, _ :: vs => none :: msk bs vs
def ldI : Option (Option AV) → Option AV
  | some (some (.inl x)) => some (vI x)
  | _ => none
def ldL : Option (Option AV) → Option AV
  | some (some (.inr (.inl x))) => some (vL x)
  | _ => none
def ldA : Option (Option AV) → Option AV
  | some (some (.inr (.inr (k, i)))) => some (vR k i)
  | _ => none
def ldv (ins : Instr) (lv : List (Option AV)) : Option AV := match ins with
  | .iload i => ldI lv[i]?
  | .iload_n i => ldI lv[(i : Nat)]?
  | .lload i => ldL lv[i]?
  | .lload_n i => ldL lv[(i : Nat)]?
  | .aload i => ldA lv[i]?
  | .aload_n i => ldA lv[(i : Nat)]?
  | _ => none
def cst (aux : List Nat) (st : List AV) : Option (List AV) := match aux with
  | 0 :: a :: _ => some (vI (nI a) :: st)
  | 1 :: a :: _ => some (vI (-(nI a)) :: st)
  | _ => none
def i2 (f : Int32 → Int32 → Int32) : List AV → Option (List AV)
  | .inl y :: .inl x :: st => some (vI (f x y) :: st)
  | _ => none
def i1 (f : Int32 → Int32) : List AV → Option (List AV)
  | .inl x :: st => some (vI (f x) :: st)
  | _ => none
def l2 (f : Int64 → Int64 → Int64) : List AV → Option (List AV)
  | .inr (.inl y) :: .inr (.inl x) :: st => some (vL (f x y) :: st)
  | _ => none
def dup2s : List AV → Option (List AV)
  | .inr (.inl x) :: st => some (vL x :: vL x :: st)
  | v :: w :: st => match cat1 w with
    | true => some (v :: w :: v :: w :: st)
    | false => none
  | _ => none
def pur (ins : Instr) (aux : List Nat) (st : List AV) : Option (List AV) := match ins with
  | .iconst _ => cst aux st
  | .bipush _ => cst aux st
  | .sipush _ => cst aux st
  | .ldc_w _ => cst aux st
  | .iadd => match st with
    | .inl y :: .inl x :: st => some (vI (x + y) :: st)
    | _ => none
  | .isub => match st with
    | .inl y :: .inl x :: st => some (vI (x - y) :: st)
    | _ => none
  | .imul => match st with
    | .inl y :: .inl x :: st => some (vI (x * y) :: st)
    | _ => none
  | .iand => match st with
    | .inl y :: .inl x :: st => some (vI (x &&& y) :: st)
    | _ => none
  | .ior => match st with
    | .inl y :: .inl x :: st => some (vI (x ||| y) :: st)
    | _ => none
  | .ixor => match st with
    | .inl y :: .inl x :: st => some (vI (x ^^^ y) :: st)
    | _ => none
  | .ishl => match st with
    | .inl y :: .inl x :: st => some (vI (x <<< (y &&& 31)) :: st)
    | _ => none
  | .ishr => match st with
    | .inl y :: .inl x :: st => some (vI (x >>> (y &&& 31)) :: st)
    | _ => none
  | .iushr => match st with
    | .inl y :: .inl x :: st => some (vI ((x.toUInt32 >>> (y.toUInt32 &&& Int32.toUInt32 31)).toInt32) :: st)
    | _ => none
  | .ineg => match st with
    | .inl x :: st => some (vI (-x) :: st)
    | _ => none
  | .ladd => match st with
    | .inr (.inl y) :: .inr (.inl x) :: st => some (vL (x + y) :: st)
    | _ => none
  | .lsub => match st with
    | .inr (.inl y) :: .inr (.inl x) :: st => some (vL (x - y) :: st)
    | _ => none
  | .lmul => match st with
    | .inr (.inl y) :: .inr (.inl x) :: st => some (vL (x * y) :: st)
    | _ => none
  | .lcmp => match st with
    | .inr (.inl y) :: .inr (.inl x) :: st => some (vI (lg_cmp x y) :: st)
    | _ => none
  | .i2l => match st with
    | .inl x :: st => some (vL (x.toInt64) :: st)
    | _ => none
  | .l2i => match st with
    | .inr (.inl x) :: st => some (vI (x.toInt32) :: st)
    | _ => none
  | .i2b => match st with
    | .inl x :: st => some (vI (x.toInt8.toInt32) :: st)
    | _ => none
  | .i2s => match st with
    | .inl x :: st => some (vI (x.toInt16.toInt32) :: st)
    | _ => none
  | .lconst _ => match aux with
    | a :: _ => some (vL (lN a) :: st)
    | _ => none
  | .ldc2_w _ => match aux with
    | a :: _ => some (vL (lN a) :: st)
    | _ => none
  | .dup => match st with
    | v :: st => (match cat1 v with
      | true => some (v :: v :: st)
      | false => none)
    | _ => none
  | .pop => match st with
    | v :: st => (match cat1 v with
      | true => some st
      | false => none)
    | _ => none
  | .dup_x1 => match st with
    | v :: w :: st => (match cat1 v, cat1 w with
      | true, true => some (v :: w :: v :: st)
      | _, _ => none)
    | _ => none
  | .dup2 => match st with
    | v :: w :: st => (match cat1 v, cat1 w with
      | true, true => some (v :: w :: v :: w :: st)
      | _, _ => none)
    | _ => none
  | _ => none
def sto (n : Nat) (ins : Instr) (lv : List (Option AV)) (st : List AV) : Option (List (Option AV) × List AV) := match ins with
  | .istore i => match st with
    | .inl x :: st => (match Nat.blt i n with
      | true => some (stl lv i (vI x), st)
      | false => none)
    | _ => none
  | .istore_n i => match st with
    | .inl x :: st => (match Nat.blt i n with
      | true => some (stl lv i (vI x), st)
      | false => none)
    | _ => none
  | .lstore i => match st with
    | .inr (.inl x) :: st => (match Nat.blt (i + 1) n with
      | true => some (stl2 lv i (vL x), st)
      | false => none)
    | _ => none
  | .lstore_n i => match st with
    | .inr (.inl x) :: st => (match Nat.blt (i + 1) n with
      | true => some (stl2 lv i (vL x), st)
      | false => none)
    | _ => none
  | .astore i => match st with
    | .inr (.inr (a, b)) :: st => (match Nat.blt i n with
      | true => some (stl lv i (vR a b), st)
      | false => none)
    | _ => none
  | .astore_n i => match st with
    | .inr (.inr (a, b)) :: st => (match Nat.blt i n with
      | true => some (stl lv i (vR a b), st)
      | false => none)
    | _ => none
  | _ => none
def bra (ins : Instr) (st : List AV) : Option (Prop × List AV) := match ins with
  | .ifCond c _ => match st with
    | .inl x :: st => (match c with
      | .eq => some (x = 0, st)
      | .ne => some (¬ x = 0, st)
      | .lt => some (x < 0, st)
      | .ge => some (0 ≤ x, st)
      | .gt => some (0 < x, st)
      | .le => some (x ≤ 0, st))
    | _ => none
  | .if_icmp c _ => match st with
    | .inl y :: .inl x :: st => (match c with
      | .eq => some (x = y, st)
      | .ne => some (¬ x = y, st)
      | .lt => some (x < y, st)
      | .ge => some (y ≤ x, st)
      | .gt => some (y < x, st)
      | .le => some (x ≤ y, st))
    | _ => none
  | _ => none
def popn : Nat → List AV → List AV → Option (List AV × List AV)
  | 0, st, acc => some (acc, st)
  | n + 1, v :: st, acc => popn n st (v :: acc)
  | _ + 1, [], _ => none
def prs : List Nat → List (Nat × Nat)
  | a :: b :: r => (a, b) :: prs r
  | _ => []
/-- what the rest of the instructions asks; K: what the walk asks from there on -/
def rst (al : List Ad) (tab : List Op) (k : Nat) (P : AV → Hp → Prop) (rk : Nat) (K : List Op → List (Option AV) → List AV → Hp → Prop) (ins : Instr) (aux : List Nat) (Mc : MT) (nx : List Op) (lv : List (Option AV)) (st : List AV) (h : Hp) : Prop := match ins with
  | .goto _ => K (jmp tab (aux.headD 0)) lv st h
  | .iinc i _ => match ldI lv[i]?, aux with
    | some (.inl x), 0 :: a :: _ => K nx (stl lv i (vI (x + nI a))) st h
    | some (.inl x), 1 :: a :: _ => K nx (stl lv i (vI (x + -(nI a)))) st h
    | _, _ => False
  | .idiv => match st with
    | .inl y :: .inl x :: st => ¬ y = 0 ∧ K nx lv (vI (x / y) :: st) h
    | _ => False
  | .irem => match st with
    | .inl y :: .inl x :: st => ¬ y = 0 ∧ K nx lv (vI (x - x / y * y) :: st) h
    | _ => False
  | .ldiv => match st with
    | .inr (.inl y) :: .inr (.inl x) :: st => ¬ y = 0 ∧ K nx lv (vL (x / y) :: st) h
    | _ => False
  | .lrem => match st with
    | .inr (.inl y) :: .inr (.inl x) :: st => ¬ y = 0 ∧ K nx lv (vL (x - x / y * y) :: st) h
    | _ => False
  | .ldc _ => match aux with
    | 90 :: i :: _ => K nx lv (vR 90 i :: st) h
    | _ => False
  | .getfield _ => match st, aux with
    | .inr (.inr (kd, i)) :: st, ci :: kf :: t :: x :: y :: z :: _ => (match kd == ci with
      | true => (match t with
        | 0 => K nx lv (vI (h.1 kd i kf) :: st) h
        | 1 => K nx lv (vI (h.1 kd i kf) :: st) h
        | 2 => (match y with
          | 0 => K nx lv (vR x z :: st) h
          | _ => K nx lv (vR x i :: st) h)
        | 3 => K nx lv (vR y (h.2.2 x) :: st) h
        | 4 => ¬ h.2.2 x = 7 ∧ K nx lv (vR y (h.2.2 x) :: st) h
        | _ => False)
      | false => False)
    | _, _ => False
  | .putfield _ => match st, aux with
    | .inl v :: .inr (.inr (kd, i)) :: st, ci :: kf :: t :: _ => (match kd == ci with
      | true => (match t with
        | 0 => K nx lv st (sX h kd i kf v)
        | 1 => (v = 0 ∨ v = 1) ∧ K nx lv st (sX h kd i kf v)
        | _ => False)
      | false => False)
    | .inr (.inr (kd2, i2)) :: .inr (.inr (kd, _)) :: st, ci :: _ :: t :: x :: y :: _ => (match kd == ci && kd2 == y with
      | true => (match t with
        | 3 => K nx lv st (sD h x i2)
        | 4 => K nx lv st (sD h x i2)
        | _ => False)
      | false => False)
    | _, _ => False
  | .iaload => match st with
    | .inl j :: .inr (.inr (kd, i)) :: st => (match shp kd with
      | .inr (0, q) => vp_in j (aln (0, q) i) ∧ K nx lv (vI (h.1 kd i j.toNatClampNeg) :: st) h
      | _ => False)
    | _ => False
  | .baload => match st with
    | .inl j :: .inr (.inr (kd, i)) :: st => (match shp kd with
      | .inr (2, q) => vp_in j (aln (2, q) i) ∧ K nx lv (vI (h.1 kd i j.toNatClampNeg) :: st) h
      | .inr (3, q) => vp_in j (aln (3, q) i) ∧ K nx lv (vI (h.1 kd i j.toNatClampNeg) :: st) h
      | _ => False)
    | _ => False
  | .laload => match st with
    | .inl j :: .inr (.inr (kd, i)) :: st => (match shp kd with
      | .inr (1, q) => vp_in j (aln (1, q) i) ∧ K nx lv (vL (h.2.1 kd j.toNatClampNeg) :: st) h
      | _ => False)
    | _ => False
  | .aaload => match st with
    | .inl j :: .inr (.inr (kd, i)) :: st => (match shp kd with
      | .inr (4, n0, n1, ek, 0, z) => vp_in j (aln (4, n0, n1, ek, 0, z) i) ∧ K nx lv (vR ek (z + j.toNatClampNeg) :: st) h
      | .inr (5, n0, n1, ek, 0, z) => vp_in j (aln (5, n0, n1, ek, 0, z) i) ∧ K nx lv (vR ek (z + j.toNatClampNeg) :: st) h
      | .inr (5, n0, n1, ek, 1, z) => vp_in j (aln (5, n0, n1, ek, 1, z) i) ∧ K nx lv (vR ek (5 * i + j.toNatClampNeg) :: st) h
      | _ => False)
    | _ => False
  | .iastore => match st with
    | .inl x :: .inl j :: .inr (.inr (kd, i)) :: st => (match shp kd with
      | .inr (0, q) => vp_in j (aln (0, q) i) ∧ K nx lv st (sX h kd i j.toNatClampNeg x)
      | _ => False)
    | _ => False
  | .bastore => match st with
    | .inl x :: .inl j :: .inr (.inr (kd, i)) :: st => (match shp kd with
      | .inr (2, q) => vp_in j (aln (2, q) i) ∧ K nx lv st (sX h kd i j.toNatClampNeg (vp_nar .byte x))
      | .inr (3, q) => vp_in j (aln (3, q) i) ∧ K nx lv st (sX h kd i j.toNatClampNeg (vp_nar .boolean x))
      | _ => False)
    | _ => False
  | .lastore => match st with
    | .inr (.inl x) :: .inl j :: .inr (.inr (kd, i)) :: st => (match shp kd with
      | .inr (1, q) => vp_in j (aln (1, q) i) ∧ K nx lv st (sL h kd j.toNatClampNeg x)
      | _ => False)
    | _ => False
  | .arraylength => match st with
    | .inr (.inr (kd, i)) :: st => (match shp kd with
      | .inr (1, q) => K nx lv (vI (nI (aln (1, q) i)) :: st) h
      | _ => False)
    | _ => False
  | .tableswitch _ _ _ _ => match st with
    | .inl x :: st => swP x (aux.headD 0) (prs aux.tail) (fun t => K (jmp tab t) lv st h)
    | _ => False
  | .lookupswitch _ _ => match st with
    | .inl x :: st => swP x (aux.headD 0) (prs aux.tail) (fun t => K (jmp tab t) lv st h)
    | _ => False
  | .ireturn => match st with
    | [.inl x] => (match rk with
      | 0 => P (vI x) h
      | 1 => (x = 0 ∨ x = 1) ∧ P (vI x) h
      | _ => False)
    | _ => False
  | .lreturn => match st with
    | [.inr (.inl x)] => (match rk with
      | 2 => P (vL x) h
      | _ => False)
    | _ => False
  | .return_ => match st with
    | [] => (match rk with
      | 3 => P (vI 0) h
      | _ => False)
    | _ => False
  | .invokestatic _ => match k with
    | 0 => False
    | k' + 1 => (match aux with
      | 0 :: n :: rf :: _ => (match popn n st [] with
        | some (As, rest) => (match Nat.ble (catS rest) 8 with
          | true => ∃ P' : AV → Hp → Prop, Ct al Mc k' As h P' ∧ ∀ v h', P' v h' → (match rf with
            | 0 => K nx lv rest h'
            | _ => K nx lv (v :: rest) h')
          | false => False)
        | none => False)
      | 1 :: _ => (match st with
        | .inl y :: .inl x :: st => (match Nat.ble (catS st) 8 with
          | true => K nx lv (vI (if x < y then y else x) :: st) h
          | false => False)
        | _ => False)
      | 2 :: _ => (match st with
        | .inl y :: .inl x :: st => (match Nat.ble (catS st) 8 with
          | true => K nx lv (vI (if y < x then y else x) :: st) h
          | false => False)
        | _ => False)
      | 3 :: _ => (match st with
        | .inr (.inl y) :: .inr (.inl x) :: st => (match Nat.ble (catS st) 8 with
          | true => K nx lv (vL (if y < x then x else y) :: st) h
          | false => False)
        | _ => False)
      | 4 :: _ => (match st with
        | .inr (.inl y) :: .inr (.inl x) :: st => (match Nat.ble (catS st) 8 with
          | true => K nx lv (vL (if y < x then y else x) :: st) h
          | false => False)
        | _ => False)
      | 5 :: _ => (match st with
        | .inr (.inl x) :: st => (match Nat.ble (catS st) 8 with
          | true => K nx lv (vL (if 0 < x then x else -x) :: st) h
          | false => False)
        | _ => False)
      | 6 :: _ => (match st with
        | .inl n :: .inl dp :: .inr (.inr (kd2, i2)) :: .inl sp :: .inr (.inr (kd, i)) :: st => (match shp kd, shp kd2 with
          | .inr (0, q), .inr (0, q2) => (match Nat.ble (catS st) 8 with
            | true => ¬ sp < 0 ∧ ¬ dp < 0 ∧ ¬ n < 0 ∧ sp.toNatClampNeg + n.toNatClampNeg ≤ aln (0, q) i ∧ dp.toNatClampNeg + n.toNatClampNeg ≤ aln (0, q2) i2 ∧ K nx lv st (sV h kd2 i2 (va_cpy (h.1 kd i) (h.1 kd2 i2) sp.toNatClampNeg dp.toNatClampNeg n.toNatClampNeg))
            | false => False)
          | _, _ => False)
        | _ => False)
      | _ => False)
  | .invokevirtual _ => match k with
    | 0 => False
    | k' + 1 => (match aux with
      | ci :: n :: rf :: _ => (match popn (n + 1) st [] with
        | some (.inr (.inr (kd, i)) :: As, rest) => (match kd == ci && Nat.ble (catS rest) 8 with
          | true => ∃ P' : AV → Hp → Prop, Ct al Mc k' (vR kd i :: As) h P' ∧ ∀ v h', P' v h' → (match rf with
            | 0 => K nx lv rest h'
            | _ => K nx lv (v :: rest) h')
          | false => False)
        | _ => False)
      | _ => False)
  | _ => False
def stp (al : List Ad) (tab : List Op) (k : Nat) (nl : Nat) (P : AV → Hp → Prop) (rk : Nat) (K : List Op → List (Option AV) → List AV → Hp → Prop) (o : Op) (nx : List Op) (lv : List (Option AV)) (st : List AV) (h : Hp) : Prop :=
  match ldv o.2.1 lv with
  | some v => K nx lv (v :: st) h
  | none => match pur o.2.1 o.2.2.2.1 st with
    | some st' => K nx lv st' h
    | none => match sto nl o.2.1 lv st with
      | some (lv', st') => K nx lv' st' h
      | none => match bra o.2.1 st with
        | some (c, st') => (c → K (jmp tab (o.2.2.2.1.headD 0)) lv st' h) ∧ (¬ c → K nx lv st' h)
        | none => rst al tab k P rk K o.2.1 o.2.2.2.1 o.2.2.2.2 nx lv st h
def vc (al : List Ad) (tab : List Op) (stops : List (Nat × List Bool)) (k : Nat) (nl : Nat) (P : AV → Hp → Prop) (rk : Nat) (S : Nat → List (Option AV) → List AV → Hp → Prop) : Nat → Bool → List Op → List (Option AV) → List AV → Hp → Prop
  | 0, _, _, _, _, _ => False
  | _ + 1, _, [], _, _, _ => False
  | n + 1, false, o :: nx, lv, st, h => stp al tab k nl P rk (vc al tab stops k nl P rk S n true) o nx lv st h
  | n + 1, true, o :: nx, lv, st, h => match stopAt stops o.1 with
    | some m => S o.1 (msk m lv) st h
    | none => stp al tab k nl P rk (vc al tab stops k nl P rk S n true) o nx lv st h
end
section
/-! THE WALK IS SOUND -/
def inG (i : Nat) (w : Cond) : Bool := decide (lw_tbl[i]? = some w) && goodWord w
theorem inG_ok {i : Nat} {w : Cond} (h : inG i w = true) : w ∈ gt := by
  unfold inG at h
  rw [Bool.and_eq_true] at h
  exact List.mem_filter.mpr ⟨List.mem_of_getElem? (of_decide_eq_true h.1), h.2⟩
/-- an instruction's length -/
def lnf : Instr → Nat
  | .aload _ => 2
  | .iload _ => 2
  | .lload _ => 2
  | .astore _ => 2
  | .istore _ => 2
  | .lstore _ => 2
  | .bipush _ => 2
  | .ldc _ => 2
  | .sipush _ => 3
  | .ldc_w _ => 3
  | .ldc2_w _ => 3
  | .iinc _ _ => 3
  | .ifCond _ _ => 3
  | .if_icmp _ _ => 3
  | .goto _ => 3
  | .getfield _ => 3
  | .putfield _ => 3
  | .invokestatic _ => 3
  | .invokevirtual _ => 3
  | _ => 1
def kvI (aux : List Nat) (x : Int32) : Bool := match aux with
  | 0 :: a :: _ => decide (x = nI a)
  | 1 :: a :: _ => decide (x = -(nI a))
  | _ => false
def isSw : Instr → Bool
  | .tableswitch _ _ _ _ => true
  | .lookupswitch _ _ => true
  | _ => false
def ptOK (t : Nat) (ds : String) (y : Nat) : Bool := match t with
  | 0 => decide (ds = "I")
  | 1 => decide (ds = "Z")
  | 3 => decide (ds = "LByTheThumbs$Rule;" ∨ ds = "[B")
  | 4 => decide (ds = "[B" ∧ y = 43)
  | _ => false
def rkOK (rk : Nat) (ret : Option FieldType) : Bool := match rk with
  | 0 => decide (ret = some .int)
  | 1 => decide (ret = some .boolean)
  | 2 => decide (ret = some .long)
  | 3 => decide (ret = none)
  | _ => false
def ckF (M : MT) (idx : Nat) (aux : List Nat) (put : Bool) : Bool := match aux with
  | [ci, kf, t, x, y, z, w] => (match vwCl[ci]?, shp ci with
    | some q, .inl fds => decide (kf < q.2.2) && inG w (.fieldLink M.1.cls idx (q.2.1 kf).1 (q.2.1 kf).2.1 (q.2.1 kf).2.2.1) && decide (fds[kf]? = some (t, x, y, z)) && decide (t ≤ 4) && (!put || (!(q.2.1 kf).2.2.2 && decide (y ≠ 90) && ptOK t (q.2.1 kf).2.2.1 y))
    | _, _ => false)
  | _ => false
def yOK (Mc : MT) (n rf : Nat) : Bool := decide (Mc.1.cls ≠ "java/lang/invoke/MethodHandle" ∧ Mc.1.cls ≠ "java/lang/invoke/VarHandle" ∧ (parseMethodDescriptor Mc.1.desc).map (fun d => d.parameters.length) = some n) && Nat.ble Mc.2.2.1 41 && (match Mc.2.2.2, rf with
  | none, 0 => true
  | some _, 1 => true
  | _, _ => false)
def ckA (M : MT) (pc : Nat) (ins : Instr) (aux : List Nat) (Mc : MT) : Bool := match ins with
  | .iconst n => kvI aux (Int32.ofInt n)
  | .bipush n => kvI aux ((Int8.ofInt n).toInt32)
  | .sipush n => kvI aux ((Int16.ofInt n).toInt32)
  | .ldc_w idx => (match aux with
    | [0, a, w] => inG w (.constant M.1.cls idx (nI a))
    | _ => false)
  | .lconst n => (match aux with
    | [a] => decide (Int64.ofNat (n : Nat) = lN a)
    | _ => false)
  | .ldc2_w idx => (match aux with
    | [a, w] => inG w (.constantLong M.1.cls idx (lN a))
    | _ => false)
  | .ldc idx => (match aux with
    | [90, i] => strOK M.1.cls idx i
    | _ => false)
  | .iinc i n => kvI aux (Int32.ofInt n) && Nat.blt i M.2.2.1
  | .ifCond _ off => decide ((pc : Int) + off = ((aux.headD 0 : Nat) : Int))
  | .if_icmp _ off => decide ((pc : Int) + off = ((aux.headD 0 : Nat) : Int))
  | .goto off => decide ((pc : Int) + off = ((aux.headD 0 : Nat) : Int))
  | .getfield idx => ckF M idx aux false
  | .putfield idx => ckF M idx aux true
  | .tableswitch dflt lo hi offs => decide (prs aux.tail = (offs.toList.zipIdx).map (fun q => ((lo + (q.2 : Int)).toNat, ((pc : Int) + q.1).toNat))) && decide (0 ≤ lo) && offs.toList.all (fun o => decide (0 ≤ (pc : Int) + o)) && decide (hi + 1 = lo + offs.size) && (prs aux.tail).all (fun q => decide (q.1 < 2147483648)) && decide (((aux.headD 0 : Nat) : Int) = (pc : Int) + dflt)
  | .lookupswitch dflt ps => decide ((prs aux.tail).map (fun q => ((q.1 : Int), (q.2 : Int) - (pc : Int))) = ps.toList) && (ps.toList.zip (ps.toList.drop 1)).all (fun (a, next) => a.1 < next.1) && (prs aux.tail).all (fun q => decide (q.1 < 2147483648)) && decide (((aux.headD 0 : Nat) : Int) = (pc : Int) + dflt)
  | .invokestatic idx => (match aux with
    | [0, n, rf, w1, w2, w3, w4] => inG w1 (.methodLink M.1.cls idx Mc.1) && inG w2 (.static Mc.1) && inG w3 (.initialized Mc.1.cls) && inG w4 (.code Mc.1 Mc.2.1 Mc.2.2.1 Mc.2.2.2) && yOK Mc n rf
    | [1, w1, w2, w3, w4] => inG w1 (.methodLink M.1.cls idx Lib.Math.max.name) && inG w2 (.static Lib.Math.max.name) && inG w3 (.initialized "java/lang/Math") && inG w4 (.code Lib.Math.max.name Lib.Math.max.code 2 (some .int))
    | [2, w1, w2, w3, w4] => inG w1 (.methodLink M.1.cls idx Lib.Math.min.name) && inG w2 (.static Lib.Math.min.name) && inG w3 (.initialized "java/lang/Math") && inG w4 (.code Lib.Math.min.name Lib.Math.min.code 2 (some .int))
    | [3, w1, w2, w3, w4] => inG w1 (.methodLink M.1.cls idx Lib.MathLoose.max_long.x) && inG w2 (.static Lib.MathLoose.max_long.x) && inG w3 (.initialized "java/lang/Math") && inG w4 (.code Lib.MathLoose.max_long.x Lib.MathLoose.max_long.code 4 (some .long))
    | [4, w1, w2, w3, w4] => inG w1 (.methodLink M.1.cls idx Lib.MathLoose.min_long.x) && inG w2 (.static Lib.MathLoose.min_long.x) && inG w3 (.initialized "java/lang/Math") && inG w4 (.code Lib.MathLoose.min_long.x Lib.MathLoose.min_long.code 4 (some .long))
    | [5, w1, w2, w3, w4] => inG w1 (.methodLink M.1.cls idx Lib.MathLoose.abs_long.x) && inG w2 (.static Lib.MathLoose.abs_long.x) && inG w3 (.initialized "java/lang/Math") && inG w4 (.code Lib.MathLoose.abs_long.x Lib.MathLoose.abs_long.code 2 (some .long))
    | [6, w1, w2, w3, w4] => inG w1 (.methodLink M.1.cls idx arraycopyName) && inG w2 (.native arraycopyName) && inG w3 (.static arraycopyName) && inG w4 (.initialized "java/lang/System")
    | _ => false)
  | .invokevirtual idx => (match aux with
    | [ci, n, rf, w1, w2, w5, w3, w4] => inG w1 (.methodLink M.1.cls idx Mc.1) && inG w2 (.instanceMethod Mc.1) && inG w5 (.selects Mc.1.cls Mc.1 Mc.1) && inG w3 (.initialized Mc.1.cls) && inG w4 (.code Mc.1 Mc.2.1 Mc.2.2.1 Mc.2.2.2) && yOK Mc n rf && (match ci with
      | 90 => decide ("java/lang/String" = Mc.1.cls)
      | _ => (match vwCl[ci]?, shp ci with
        | some q, .inl _ => decide (q.1 = Mc.1.cls)
        | _, _ => false))
    | _ => false)
  | _ => true
def okOp (M : MT) (o : Op) : Bool := (match decode M.2.1 o.1 with
  | .ok q => decide (q = (o.2.1, o.2.2.1))
  | .error _ => false) && (isSw o.2.1 || (o.2.2.1 == lnf o.2.1)) && ckA M o.1 o.2.1 o.2.2.2.1 o.2.2.2.2
def seqOK : List Op → Bool
  | o :: o2 :: r => (o2.1 == o.1 + o.2.2.1) && seqOK (o2 :: r)
  | _ => true
/-- a method's table is right; rk: what it returns (0 int, 1 boolean, 2 long, 3 nothing) -/
def tabOK (M : MT) (rk : Nat) (tab : List Op) : Bool := tab.all (okOp M) && seqOK tab && plainName M.1.cls && rkOK rk M.2.2.2
theorem kvI_0 {a : Nat} {r : List Nat} {x : Int32} (h : kvI (0 :: a :: r) x = true) : x = nI a := of_decide_eq_true h
theorem kvI_1 {a : Nat} {r : List Nat} {x : Int32} (h : kvI (1 :: a :: r) x = true) : x = -(nI a) := of_decide_eq_true h
theorem cst_ok {aux : List Nat} {st st' : List AV} {x : Int32} (hv : cst aux st = some st') (hk : kvI aux x = true) : st' = vI x :: st := by
  unfold cst at hv
  split at hv
  · cases hv; rw [kvI_0 hk]
  · cases hv; rw [kvI_1 hk]
  · cases hv
section SOUND
variable {al : List Ad} {M : MT} {k : Nat} {P : AV → Hp → Prop} {pc : Nat} {lv : List (Option AV)} {st : List AV} {h : Hp}
theorem ldI_ok {o : Option (Option AV)} {v : AV} (h : ldI o = some v) : ∃ x, v = vI x ∧ o = some (some (vI x)) := by
  unfold ldI at h
  split at h
  · cases h; exact ⟨_, rfl, rfl⟩
  · cases h
theorem ldL_ok {o : Option (Option AV)} {v : AV} (h : ldL o = some v) : ∃ x, v = vL x ∧ o = some (some (vL x)) := by
  unfold ldL at h
  split at h
  · cases h; exact ⟨_, rfl, rfl⟩
  · cases h
theorem ldA_ok {o : Option (Option AV)} {v : AV} (h : ldA o = some v) : ∃ a : Ad, v = .inr (.inr a) ∧ o = some (some (.inr (.inr a))) := by
  unfold ldA at h
  split at h
  · cases h; exact ⟨_, rfl, rfl⟩
  · cases h
theorem ldv_ok {ins : Instr} {v : AV} (hd : decode M.2.1 pc = .ok (ins, lnf ins)) (hv : ldv ins lv = some v) (kk : WP al M k P (pc + lnf ins) lv (v :: st) h) : WP al M k P pc lv st h := by
  unfold ldv at hv
  split at hv
  · obtain ⟨x, rfl, hx⟩ := ldI_ok hv; exact wp_iload hd hx kk
  · obtain ⟨x, rfl, hx⟩ := ldI_ok hv; exact wp_iload_n hd hx kk
  · obtain ⟨x, rfl, hx⟩ := ldL_ok hv; exact wp_lload hd hx kk
  · obtain ⟨x, rfl, hx⟩ := ldL_ok hv; exact wp_lload_n hd hx kk
  · obtain ⟨x, rfl, hx⟩ := ldA_ok hv; exact wp_aload hd hx kk
  · obtain ⟨x, rfl, hx⟩ := ldA_ok hv; exact wp_aload_n hd hx kk
  · cases hv
theorem pur_ok {ins : Instr} {aux : List Nat} {Mc : MT} {st' : List AV} (hd : decode M.2.1 pc = .ok (ins, lnf ins)) (hc : ckA M pc ins aux Mc = true) (hv : pur ins aux st = some st') (kk : WP al M k P (pc + lnf ins) lv st' h) : WP al M k P pc lv st h := by
  unfold pur at hv
  split at hv
  · rw [cst_ok hv hc] at kk; exact wp_iconst hd kk
  · rw [cst_ok hv hc] at kk; exact wp_bipush hd kk
  · rw [cst_ok hv hc] at kk; exact wp_sipush hd kk
  · dsimp only [ckA] at hc
    split at hc
    · cases hv; exact wp_ldcw hd (inG_ok hc) kk
    · cases hc
  · split at hv
    · cases hv; exact wp_iadd hd kk
    · cases hv
  · split at hv
    · cases hv; exact wp_isub hd kk
    · cases hv
  · split at hv
    · cases hv; exact wp_imul hd kk
    · cases hv
  · split at hv
    · cases hv; exact wp_iand hd kk
    · cases hv
  · split at hv
    · cases hv; exact wp_ior hd kk
    · cases hv
  · split at hv
    · cases hv; exact wp_ixor hd kk
    · cases hv
  · split at hv
    · cases hv; exact wp_ishl hd kk
    · cases hv
  · split at hv
    · cases hv; exact wp_ishr hd kk
    · cases hv
  · split at hv
    · cases hv; exact wp_iushr hd kk
    · cases hv
  · split at hv
    · cases hv; exact wp_ineg hd kk
    · cases hv
  · split at hv
    · cases hv; exact wp_ladd hd kk
    · cases hv
  · split at hv
    · cases hv; exact wp_lsub hd kk
    · cases hv
  · split at hv
    · cases hv; exact wp_lmul hd kk
    · cases hv
  · split at hv
    · cases hv; exact wp_lcmp hd kk
    · cases hv
  · split at hv
    · cases hv; exact wp_i2l hd kk
    · cases hv
  · split at hv
    · cases hv; exact wp_l2i hd kk
    · cases hv
  · split at hv
    · cases hv; exact wp_i2b hd kk
    · cases hv
  · split at hv
    · cases hv; exact wp_i2s hd kk
    · cases hv
  · dsimp only [ckA] at hc
    split at hc
    · cases hv
      rw [← of_decide_eq_true hc] at kk
      exact wp_lconst hd kk
    · cases hc
  · dsimp only [ckA] at hc
    split at hc
    · cases hv; exact wp_ldc2 hd (inG_ok hc) kk
    · cases hc
  · split at hv
    · split at hv
      next h1 => cases hv; exact wp_dup hd h1 kk
      next => cases hv
    · cases hv
  · split at hv
    · split at hv
      next h1 => cases hv; exact wp_pop hd h1 kk
      next => cases hv
    · cases hv
  · split at hv
    · split at hv
      next h1 h2 => cases hv; exact wp_dup_x1 hd h1 h2 kk
      next => cases hv
    · cases hv
  · split at hv
    · split at hv
      next h1 h2 => cases hv; exact wp_dup2 hd h1 h2 kk
      next => cases hv
    · cases hv
  · cases hv
theorem blt_ok {a b : Nat} (h : Nat.blt a b = true) : a < b := Nat.lt_of_lt_of_le (Nat.lt_succ_self a) (Nat.le_of_ble_eq_true h)
theorem sto_ok {ins : Instr} {lv' : List (Option AV)} {st' : List AV} (hd : decode M.2.1 pc = .ok (ins, lnf ins)) (hv : sto M.2.2.1 ins lv st = some (lv', st')) (kk : WP al M k P (pc + lnf ins) lv' st' h) : WP al M k P pc lv st h := by
  unfold sto at hv
  split at hv
  · split at hv
    · split at hv
      next h1 => cases hv; exact wp_istore hd (blt_ok h1) kk
      next => cases hv
    · cases hv
  · split at hv
    · split at hv
      next h1 => cases hv; exact wp_istore_n hd (blt_ok h1) kk
      next => cases hv
    · cases hv
  · split at hv
    · split at hv
      next h1 => cases hv; exact wp_lstore hd (blt_ok h1) kk
      next => cases hv
    · cases hv
  · split at hv
    · split at hv
      next h1 => cases hv; exact wp_lstore_n hd (blt_ok h1) kk
      next => cases hv
    · cases hv
  · split at hv
    · split at hv
      next h1 => cases hv; exact wp_astore hd (blt_ok h1) kk
      next => cases hv
    · cases hv
  · split at hv
    · split at hv
      next h1 => cases hv; exact wp_astore_n hd (blt_ok h1) kk
      next => cases hv
    · cases hv
  · cases hv
theorem bra_ok {ins : Instr} {aux : List Nat} {Mc : MT} {c : Prop} {st' : List AV} (hd : decode M.2.1 pc = .ok (ins, lnf ins)) (hc : ckA M pc ins aux Mc = true) (hv : bra ins st = some (c, st')) (k1 : c → WP al M k P (aux.headD 0) lv st' h) (k2 : ¬ c → WP al M k P (pc + lnf ins) lv st' h) : WP al M k P pc lv st h := by
  unfold bra at hv
  split at hv
  · have ht := of_decide_eq_true (show decide _ = true from hc)
    split at hv
    · split at hv
      · cases hv; exact wp_if_eq hd ht k1 k2
      · cases hv; exact wp_if_ne hd ht k1 (fun q => k2 (fun z => z q))
      · cases hv; exact wp_if_lt hd ht k1 k2
      · cases hv; exact wp_if_ge hd ht k1 k2
      · cases hv; exact wp_if_gt hd ht k1 k2
      · cases hv; exact wp_if_le hd ht k1 k2
    · cases hv
  · have ht := of_decide_eq_true (show decide _ = true from hc)
    split at hv
    · split at hv
      · cases hv; exact wp_icmp_eq hd ht k1 k2
      · cases hv; exact wp_icmp_ne hd ht k1 (fun q => k2 (fun z => z q))
      · cases hv; exact wp_icmp_lt hd ht k1 k2
      · cases hv; exact wp_icmp_ge hd ht k1 k2
      · cases hv; exact wp_icmp_gt hd ht k1 k2
      · cases hv; exact wp_icmp_le hd ht k1 k2
    · cases hv
  · cases hv
end SOUND
section SOUND2
variable {al : List Ad} {M : MT} {k : Nat} {P : AV → Hp → Prop} {pc : Nat} {lv : List (Option AV)} {st : List AV} {h : Hp}
theorem and3 {a b : Bool} (h : (a && b) = true) : a = true ∧ b = true := by rwa [Bool.and_eq_true] at h
/-- what the check of a field's link says -/
theorem ckF_ok {idx : Nat} {ci kf t x y z w : Nat} {put : Bool} (h : ckF M idx [ci, kf, t, x, y, z, w] put = true) : ∃ (q : vw_C) (fds : List Fdk), vwCl[ci]? = some q ∧ shp ci = .inl fds ∧ kf < q.2.2 ∧ Cond.fieldLink M.1.cls idx (q.2.1 kf).1 (q.2.1 kf).2.1 (q.2.1 kf).2.2.1 ∈ gt ∧ fds[kf]? = some (t, x, y, z) ∧ t ≤ 4 ∧ (put = true → (q.2.1 kf).2.2.2 = false ∧ y ≠ 90 ∧ ptOK t (q.2.1 kf).2.2.1 y = true) := by
  dsimp only [ckF] at h
  split at h
  next q fds h1 h2 =>
    obtain ⟨h, hp⟩ := and3 h
    obtain ⟨h, h4⟩ := and3 h
    obtain ⟨h, h5⟩ := and3 h
    obtain ⟨h3, h6⟩ := and3 h
    refine ⟨q, fds, h1, h2, of_decide_eq_true h3, inG_ok h6, of_decide_eq_true h5, of_decide_eq_true h4, fun e => ?_⟩
    subst e
    rw [Bool.not_true, Bool.false_or] at hp
    obtain ⟨hp, h8⟩ := and3 hp
    obtain ⟨h9, h10⟩ := and3 hp
    exact ⟨by simpa using h9, of_decide_eq_true h10, h8⟩
  next => cases h
theorem yOK_ok {Mc : MT} {n rf : Nat} (h : yOK Mc n rf = true) : (Mc.1.cls ≠ "java/lang/invoke/MethodHandle" ∧ Mc.1.cls ≠ "java/lang/invoke/VarHandle" ∧ (parseMethodDescriptor Mc.1.desc).map (fun d => d.parameters.length) = some n) ∧ Mc.2.2.1 ≤ 41 ∧ ((Mc.2.2.2 = none ∧ rf = 0) ∨ (∃ t, Mc.2.2.2 = some t) ∧ rf = 1) := by
  unfold yOK at h
  obtain ⟨h, h3⟩ := and3 h
  obtain ⟨h1, h2⟩ := and3 h
  refine ⟨of_decide_eq_true h1, Nat.le_of_ble_eq_true h2, ?_⟩
  split at h3
  next e => exact Or.inl ⟨e, rfl⟩
  next e => exact Or.inr ⟨⟨_, e⟩, rfl⟩
  next => cases h3
theorem popn_ok : ∀ (n : Nat) (st acc As rest : List AV), popn n st acc = some (As, rest) → acc.reverse ++ As = acc.reverse ++ As ∧ As.reverse ++ rest = acc.reverse ++ st ∧ As.length = acc.length + n
  | 0, st, acc, As, rest, h => by cases h; exact ⟨rfl, rfl, rfl⟩
  | n + 1, [], acc, As, rest, h => by cases h
  | n + 1, v :: st, acc, As, rest, h => by
    obtain ⟨-, h1, h2⟩ := popn_ok n st (v :: acc) As rest h
    refine ⟨rfl, by rw [h1, List.reverse_cons, List.append_assoc]; rfl, by rw [h2, List.length_cons]; omega⟩
theorem rfK {Mc : MT} {rf : Nat} {v : AV} {rest : List AV} {X Y : List AV → Prop} (h : match rf with
    | 0 => Y rest
    | _ => Y (v :: rest)) (hr : (Mc.2.2.2 = none ∧ rf = 0) ∨ (∃ t, Mc.2.2.2 = some t) ∧ rf = 1) (hXY : ∀ q, Y q → X q) : X (retL Mc.2.2.2 v rest) := by
  rcases hr with ⟨e, rfl⟩ | ⟨⟨t, e⟩, rfl⟩
  · rw [e]; exact hXY _ h
  · rw [e]; exact hXY _ h
/-- the rest of the instructions -/
theorem rst_ok {tab nx : List Op} {rk : Nat} {K : List Op → List (Option AV) → List AV → Hp → Prop} {ins : Instr} {len : Nat} {aux : List Nat} {Mc : MT} (hok : Okal al) (hd : decode M.2.1 pc = .ok (ins, len)) (hlen : (isSw ins || (len == lnf ins)) = true) (hc : ckA M pc ins aux Mc = true) (hrk : rkOK rk M.2.2.2 = true) (kn : ∀ lv st h, K nx lv st h → WP al M k P (pc + len) lv st h) (kj : ∀ t lv st h, K (jmp tab t) lv st h → WP al M k P t lv st h) (hv : rst al tab k P rk K ins aux Mc nx lv st h) : WP al M k P pc lv st h := by
  by_cases hsw : isSw ins = true
  · unfold rst at hv
    split at hv <;> first | (cases hsw; done) | skip
    · split at hv
      · dsimp only [ckA] at hc
        obtain ⟨hc, h6⟩ := and3 hc
        obtain ⟨hc, h5⟩ := and3 hc
        obtain ⟨hc, h4⟩ := and3 hc
        obtain ⟨hc, h3⟩ := and3 hc
        obtain ⟨h1, h2⟩ := and3 hc
        exact wp_table hd (of_decide_eq_true h1) (of_decide_eq_true h2) (fun o ho => of_decide_eq_true (List.all_eq_true.mp h3 o ho)) (of_decide_eq_true h4) (fun q hq => of_decide_eq_true (List.all_eq_true.mp h5 q hq)) (of_decide_eq_true h6) (swP_mono (fun t ht => kj t _ _ _ ht) _ hv)
      · cases hv
    · split at hv
      · dsimp only [ckA] at hc
        obtain ⟨hc, h6⟩ := and3 hc
        obtain ⟨hc, h5⟩ := and3 hc
        obtain ⟨h1, h2⟩ := and3 hc
        exact wp_lookup hd h2 (of_decide_eq_true h1) (fun q hq => of_decide_eq_true (List.all_eq_true.mp h5 q hq)) (of_decide_eq_true h6) (swP_mono (fun t ht => kj t _ _ _ ht) _ hv)
      · cases hv
    · exact hv.elim
  · have hsw' : isSw ins = false := by simpa using hsw
    rw [hsw', Bool.false_or] at hlen
    have e : len = lnf ins := by simpa using hlen
    subst e
    unfold rst at hv
    split at hv
    · -- goto
      exact wp_goto hd (of_decide_eq_true hc) (kj _ _ _ _ hv)
    · -- iinc
      obtain ⟨h1, h2⟩ := and3 (show (kvI aux _ && Nat.blt _ _) = true from hc)
      split at hv
      next x a r e1 =>
        obtain ⟨x', e2, e3⟩ := ldI_ok e1
        cases e2
        refine wp_iinc hd (blt_ok h2) e3 ?_
        rw [kvI_0 h1]
        exact kn _ _ _ hv
      next x a r e1 =>
        obtain ⟨x', e2, e3⟩ := ldI_ok e1
        cases e2
        refine wp_iinc hd (blt_ok h2) e3 ?_
        rw [kvI_1 h1]
        exact kn _ _ _ hv
      next => exact hv.elim
    · split at hv
      · exact wp_idiv hd hv.1 (kn _ _ _ hv.2)
      · exact hv.elim
    · split at hv
      · exact wp_irem hd hv.1 (kn _ _ _ hv.2)
      · exact hv.elim
    · split at hv
      · exact wp_ldiv hd hv.1 (kn _ _ _ hv.2)
      · exact hv.elim
    · split at hv
      · exact wp_lrem hd hv.1 (kn _ _ _ hv.2)
      · exact hv.elim
    · -- ldc
      dsimp only [ckA] at hc
      split at hc
      · exact wp_ldcs hd hc (kn _ _ _ hv)
      · cases hc
    · -- getfield
      split at hv
      next kd i st ci kf t x y z r =>
        split at hv
        next hkd =>
          have e : kd = ci := by simpa using hkd
          subst e
          have hr : ∃ w, r = [w] := by
            match r, hc with
            | [w], _ => exact ⟨w, rfl⟩
            | [], hc => cases hc
            | _ :: _ :: _, hc => cases hc
          obtain ⟨w, rfl⟩ := hr
          obtain ⟨q, fds, h1, h2, h3, h4, h5, h6, -⟩ := ckF_ok hc
          split at hv
          · exact wp_getfield hok hd h1 h3 h4 h2 h5 (by omega) (fun z => by cases z) (kn _ _ _ hv)
          · exact wp_getfield hok hd h1 h3 h4 h2 h5 (by omega) (fun z => by cases z) (kn _ _ _ hv)
          · split at hv
            · exact wp_getfield hok hd h1 h3 h4 h2 h5 (by omega) (fun z => by cases z) (kn _ _ _ hv)
            next hy =>
              refine wp_getfield hok hd h1 h3 h4 h2 h5 (by omega) (fun z => by cases z) ?_
              have K1 := kn _ _ _ hv
              match y, hy, K1 with
              | 0, hy, _ => exact absurd rfl hy
              | y + 1, _, K1 => exact K1
          · exact wp_getfield hok hd h1 h3 h4 h2 h5 (by omega) (fun z => by cases z) (kn _ _ _ hv)
          · exact wp_getfield hok hd h1 h3 h4 h2 h5 (by omega) (fun _ => hv.1) (kn _ _ _ hv.2)
          · exact hv.elim
        next => exact hv.elim
      next => exact hv.elim
    · -- putfield
      split at hv
      next v kd i st ci kf t r =>
        split at hv
        next hkd =>
          have e : kd = ci := by simpa using hkd
          subst e
          have hr : ∃ x y z w, r = [x, y, z, w] := by
            match r, hc with
            | [x, y, z, w], _ => exact ⟨x, y, z, w, rfl⟩
            | [], hc => cases hc
            | [_], hc => cases hc
            | [_, _], hc => cases hc
            | [_, _, _], hc => cases hc
            | _ :: _ :: _ :: _ :: _ :: _, hc => cases hc
          obtain ⟨x, y, z, w, rfl⟩ := hr
          obtain ⟨q, fds, h1, h2, h3, h4, h5, h6, hp⟩ := ckF_ok hc
          obtain ⟨h7, h8, h9⟩ := hp rfl
          split at hv
          · have e9 := of_decide_eq_true (show decide _ = true from h9)
            exact wp_putf (ty := .int) hok hd h1 h3 h4 h2 h5 (by omega) h7 (by rw [e9]; decide) rfl rfl (kn _ _ _ hv)
          · have e9 := of_decide_eq_true (show decide _ = true from h9)
            exact wp_putf (ty := .boolean) hok hd h1 h3 h4 h2 h5 (by omega) h7 (by rw [e9]; decide) (by rcases hv.1 with rfl | rfl <;> rfl) (by rcases hv.1 with rfl | rfl <;> rfl) (kn _ _ _ hv.2)
          · exact hv.elim
        next => exact hv.elim
      next kd2 i2 kd i st ci kf t x y r =>
        split at hv
        next hkd =>
          obtain ⟨q1, q2⟩ := and3 hkd
          have e : kd = ci := by simpa using q1
          have e' : kd2 = y := by simpa using q2
          subst e
          subst e'
          have hr : ∃ z w, r = [z, w] := by
            match r, hc with
            | [z, w], _ => exact ⟨z, w, rfl⟩
            | [], hc => cases hc
            | [_], hc => cases hc
            | _ :: _ :: _ :: _, hc => cases hc
          obtain ⟨z, w, rfl⟩ := hr
          obtain ⟨q, fds, h1, h2, h3, h4, h5, h6, hp⟩ := ckF_ok hc
          obtain ⟨h7, h8, h9⟩ := hp rfl
          split at hv
          · have e9 := of_decide_eq_true (show decide _ = true from h9)
            rcases e9 with e9 | e9
            · exact wp_putd (ty := .object "ByTheThumbs$Rule") hok hd h1 h3 h4 h2 h5 (Or.inl rfl) h8 h7 (by rw [e9]; decide) (fun _ => rfl) (fun _ => rfl) (kn _ _ _ hv)
            · exact wp_putd (ty := .array .byte) hok hd h1 h3 h4 h2 h5 (Or.inl rfl) h8 h7 (by rw [e9]; decide) (fun _ => rfl) (fun _ => rfl) (kn _ _ _ hv)
          · have e9 := of_decide_eq_true (show decide _ = true from h9)
            exact wp_putd (ty := .array .byte) hok hd h1 h3 h4 h2 h5 (Or.inr ⟨rfl, e9.2⟩) h8 h7 (by rw [e9.1]; decide) (fun _ => rfl) (fun _ => rfl) (kn _ _ _ hv)
          · exact hv.elim
        next => exact hv.elim
      next => exact hv.elim
    · -- iaload
      split at hv
      · split at hv
        next e => exact wp_iaload hd e rfl hv.1 (kn _ _ _ hv.2)
        next => exact hv.elim
      · exact hv.elim
    · split at hv
      · split at hv
        next e => exact wp_baload hd e (Or.inl rfl) hv.1 (kn _ _ _ hv.2)
        next e => exact wp_baload hd e (Or.inr rfl) hv.1 (kn _ _ _ hv.2)
        next => exact hv.elim
      · exact hv.elim
    · split at hv
      · split at hv
        next e => exact wp_laload hd e rfl hv.1 (kn _ _ _ hv.2)
        next => exact hv.elim
      · exact hv.elim
    · split at hv
      · split at hv
        next e => exact wp_aaload hok hd e (Or.inl rfl) hv.1 (kn _ _ _ hv.2)
        next e => exact wp_aaload hok hd e (Or.inr rfl) hv.1 (kn _ _ _ hv.2)
        next e => exact wp_aaload hok hd e (Or.inr rfl) hv.1 (kn _ _ _ hv.2)
        next => exact hv.elim
      · exact hv.elim
    · split at hv
      · split at hv
        next e => exact wp_iastore hok hd e rfl hv.1 (kn _ _ _ hv.2)
        next => exact hv.elim
      · exact hv.elim
    · split at hv
      · split at hv
        next e => exact wp_bastore hok hd e rfl hv.1 (kn _ _ _ hv.2)
        next e => exact wp_zastore hok hd e rfl hv.1 (kn _ _ _ hv.2)
        next => exact hv.elim
      · exact hv.elim
    · split at hv
      · split at hv
        next e => exact wp_lastore hok hd e rfl hv.1 (kn _ _ _ hv.2)
        next => exact hv.elim
      · exact hv.elim
    · split at hv
      · split at hv
        next e => exact wp_alen hd e rfl (kn _ _ _ hv)
        next => exact hv.elim
      · exact hv.elim
    · cases hsw'
    · cases hsw'
    · split at hv
      · split at hv
        · exact wp_ireturn hd (of_decide_eq_true hrk) hv
        · exact wp_zreturn hd (of_decide_eq_true hrk) hv.1 hv.2
        · exact hv.elim
      · exact hv.elim
    · split at hv
      · split at hv
        · exact wp_lreturn hd (of_decide_eq_true hrk) hv
        · exact hv.elim
      · exact hv.elim
    · split at hv
      · split at hv
        · exact wp_return hd (of_decide_eq_true hrk) hv
        · exact hv.elim
      · exact hv.elim
    · -- invokestatic
      split at hv
      · exact hv.elim
      next k' =>
        split at hv
        next n rf r =>
          split at hv
          next As rest e1 =>
            split at hv
            next e2 =>
              obtain ⟨P', hC, hk⟩ := hv
              obtain ⟨-, p2, p3⟩ := popn_ok _ _ _ _ _ e1
              have hr : ∃ w1 w2 w3 w4, r = [w1, w2, w3, w4] := by
                match r, hc with
                | [w1, w2, w3, w4], _ => exact ⟨w1, w2, w3, w4, rfl⟩
                | [], hc => cases hc
                | [_], hc => cases hc
                | [_, _], hc => cases hc
                | [_, _, _], hc => cases hc
                | _ :: _ :: _ :: _ :: _ :: _, hc => cases hc
              obtain ⟨w1, w2, w3, w4, rfl⟩ := hr
              dsimp only [ckA] at hc
              obtain ⟨hc, c5⟩ := and3 hc
              obtain ⟨hc, c4⟩ := and3 hc
              obtain ⟨hc, c3⟩ := and3 hc
              obtain ⟨c1, c2⟩ := and3 hc
              obtain ⟨y1, y2, y3⟩ := yOK_ok c5
              rw [show st = As.reverse ++ rest from p2.symm]
              exact wp_callS hd (by rw [p3]; exact Nat.zero_add _) (inG_ok c1) (inG_ok c2) (inG_ok c3) (inG_ok c4) y1 y2 (Nat.le_of_ble_eq_true e2) hC (fun v h' hp => rfK (X := fun q => WP al M (k' + 1) P (pc + 3) lv q h') (Y := fun q => K nx lv q h') (hk v h' hp) y3 (fun _ z => kn _ _ _ z))
            next => exact hv.elim
          next => exact hv.elim
        next r =>
          have hr : ∃ w1 w2 w3 w4, r = [w1, w2, w3, w4] := by
            match r, hc with
            | [w1, w2, w3, w4], _ => exact ⟨w1, w2, w3, w4, rfl⟩
            | [], hc => cases hc
            | [_], hc => cases hc
            | [_, _], hc => cases hc
            | [_, _, _], hc => cases hc
            | _ :: _ :: _ :: _ :: _ :: _, hc => cases hc
          obtain ⟨w1, w2, w3, w4, rfl⟩ := hr
          dsimp only [ckA] at hc
          obtain ⟨hc, c4⟩ := and3 hc
          obtain ⟨hc, c3⟩ := and3 hc
          obtain ⟨c1, c2⟩ := and3 hc
          split at hv
          · split at hv
            next e2 => exact wp_mmax hd (inG_ok c1) (inG_ok c2) (inG_ok c3) (inG_ok c4) (Nat.le_of_ble_eq_true e2) (kn _ _ _ hv)
            next => exact hv.elim
          · exact hv.elim
        next r =>
          have hr : ∃ w1 w2 w3 w4, r = [w1, w2, w3, w4] := by
            match r, hc with
            | [w1, w2, w3, w4], _ => exact ⟨w1, w2, w3, w4, rfl⟩
            | [], hc => cases hc
            | [_], hc => cases hc
            | [_, _], hc => cases hc
            | [_, _, _], hc => cases hc
            | _ :: _ :: _ :: _ :: _ :: _, hc => cases hc
          obtain ⟨w1, w2, w3, w4, rfl⟩ := hr
          dsimp only [ckA] at hc
          obtain ⟨hc, c4⟩ := and3 hc
          obtain ⟨hc, c3⟩ := and3 hc
          obtain ⟨c1, c2⟩ := and3 hc
          split at hv
          · split at hv
            next e2 => exact wp_mmin hd (inG_ok c1) (inG_ok c2) (inG_ok c3) (inG_ok c4) (Nat.le_of_ble_eq_true e2) (kn _ _ _ hv)
            next => exact hv.elim
          · exact hv.elim
        next r =>
          have hr : ∃ w1 w2 w3 w4, r = [w1, w2, w3, w4] := by
            match r, hc with
            | [w1, w2, w3, w4], _ => exact ⟨w1, w2, w3, w4, rfl⟩
            | [], hc => cases hc
            | [_], hc => cases hc
            | [_, _], hc => cases hc
            | [_, _, _], hc => cases hc
            | _ :: _ :: _ :: _ :: _ :: _, hc => cases hc
          obtain ⟨w1, w2, w3, w4, rfl⟩ := hr
          dsimp only [ckA] at hc
          obtain ⟨hc, c4⟩ := and3 hc
          obtain ⟨hc, c3⟩ := and3 hc
          obtain ⟨c1, c2⟩ := and3 hc
          split at hv
          · split at hv
            next e2 => exact wp_mmaxL hd (inG_ok c1) (inG_ok c2) (inG_ok c3) (inG_ok c4) (Nat.le_of_ble_eq_true e2) (kn _ _ _ hv)
            next => exact hv.elim
          · exact hv.elim
        next r =>
          have hr : ∃ w1 w2 w3 w4, r = [w1, w2, w3, w4] := by
            match r, hc with
            | [w1, w2, w3, w4], _ => exact ⟨w1, w2, w3, w4, rfl⟩
            | [], hc => cases hc
            | [_], hc => cases hc
            | [_, _], hc => cases hc
            | [_, _, _], hc => cases hc
            | _ :: _ :: _ :: _ :: _ :: _, hc => cases hc
          obtain ⟨w1, w2, w3, w4, rfl⟩ := hr
          dsimp only [ckA] at hc
          obtain ⟨hc, c4⟩ := and3 hc
          obtain ⟨hc, c3⟩ := and3 hc
          obtain ⟨c1, c2⟩ := and3 hc
          split at hv
          · split at hv
            next e2 => exact wp_mminL hd (inG_ok c1) (inG_ok c2) (inG_ok c3) (inG_ok c4) (Nat.le_of_ble_eq_true e2) (kn _ _ _ hv)
            next => exact hv.elim
          · exact hv.elim
        next r =>
          have hr : ∃ w1 w2 w3 w4, r = [w1, w2, w3, w4] := by
            match r, hc with
            | [w1, w2, w3, w4], _ => exact ⟨w1, w2, w3, w4, rfl⟩
            | [], hc => cases hc
            | [_], hc => cases hc
            | [_, _], hc => cases hc
            | [_, _, _], hc => cases hc
            | _ :: _ :: _ :: _ :: _ :: _, hc => cases hc
          obtain ⟨w1, w2, w3, w4, rfl⟩ := hr
          dsimp only [ckA] at hc
          obtain ⟨hc, c4⟩ := and3 hc
          obtain ⟨hc, c3⟩ := and3 hc
          obtain ⟨c1, c2⟩ := and3 hc
          split at hv
          · split at hv
            next e2 => exact wp_mabsL hd (inG_ok c1) (inG_ok c2) (inG_ok c3) (inG_ok c4) (Nat.le_of_ble_eq_true e2) (kn _ _ _ hv)
            next => exact hv.elim
          · exact hv.elim
        next r =>
          have hr : ∃ w1 w2 w3 w4, r = [w1, w2, w3, w4] := by
            match r, hc with
            | [w1, w2, w3, w4], _ => exact ⟨w1, w2, w3, w4, rfl⟩
            | [], hc => cases hc
            | [_], hc => cases hc
            | [_, _], hc => cases hc
            | [_, _, _], hc => cases hc
            | _ :: _ :: _ :: _ :: _ :: _, hc => cases hc
          obtain ⟨w1, w2, w3, w4, rfl⟩ := hr
          dsimp only [ckA] at hc
          obtain ⟨hc, c4⟩ := and3 hc
          obtain ⟨hc, c3⟩ := and3 hc
          obtain ⟨c1, c2⟩ := and3 hc
          split at hv
          · split at hv
            next e1 e2 =>
              split at hv
              next e3 =>
                obtain ⟨a1, a2, a3, a4, a5, a6⟩ := hv
                exact wp_acopy hok hd (inG_ok c1) (inG_ok c2) (inG_ok c3) (inG_ok c4) e1 rfl e2 rfl a1 a2 a3 a4 a5 (Nat.le_of_ble_eq_true e3) (kn _ _ _ a6)
              next => exact hv.elim
            next => exact hv.elim
          · exact hv.elim
        next => exact hv.elim
    · -- invokevirtual
      split at hv
      · exact hv.elim
      next k' =>
        split at hv
        next ci n rf r =>
          split at hv
          next kd i As rest e1 =>
            split at hv
            next e2 =>
              obtain ⟨P', hC, hk⟩ := hv
              obtain ⟨q1, q2⟩ := and3 e2
              have e : kd = ci := by simpa using q1
              subst e
              obtain ⟨-, p2, p3⟩ := popn_ok _ _ _ _ _ e1
              have hr : ∃ w1 w2 w5 w3 w4, r = [w1, w2, w5, w3, w4] := by
                match r, hc with
                | [w1, w2, w5, w3, w4], _ => exact ⟨w1, w2, w5, w3, w4, rfl⟩
                | [], hc => cases hc
                | [_], hc => cases hc
                | [_, _], hc => cases hc
                | [_, _, _], hc => cases hc
                | [_, _, _, _], hc => cases hc
                | _ :: _ :: _ :: _ :: _ :: _ :: _, hc => cases hc
              obtain ⟨w1, w2, w5, w3, w4, rfl⟩ := hr
              dsimp only [ckA] at hc
              obtain ⟨hc, c7⟩ := and3 hc
              obtain ⟨hc, c6⟩ := and3 hc
              obtain ⟨hc, c4⟩ := and3 hc
              obtain ⟨hc, c3⟩ := and3 hc
              obtain ⟨hc, c5⟩ := and3 hc
              obtain ⟨c1, c2⟩ := and3 hc
              obtain ⟨y1, y2, y3⟩ := yOK_ok c6
              have hst : st = As.reverse ++ vR kd i :: rest := by
                have : (vR kd i :: As).reverse ++ rest = st := p2
                rw [← this, List.reverse_cons, List.append_assoc]
                rfl
              have hn : As.length = n := by
                have : As.length + 1 = 0 + (n + 1) := p3
                omega
              have K' : ∀ v h', P' v h' → WP al M (k' + 1) P (pc + 3) lv (retL Mc.2.2.2 v rest) h' := fun v h' hp => rfK (X := fun q => WP al M (k' + 1) P (pc + 3) lv q h') (Y := fun q => K nx lv q h') (hk v h' hp) y3 (fun _ z => kn _ _ _ z)
              rw [hst]
              split at c7
              · exact wp_callStr hok hd hn (of_decide_eq_true c7) (inG_ok c1) (inG_ok c2) (inG_ok c5) (inG_ok c3) (inG_ok c4) y1 y2 (Nat.le_of_ble_eq_true q2) hC K'
              · split at c7
                next f1 f2 => exact wp_callV hd hn f1 (of_decide_eq_true c7) f2 (inG_ok c1) (inG_ok c2) (inG_ok c5) (inG_ok c3) (inG_ok c4) y1 y2 (Nat.le_of_ble_eq_true q2) hC K'
                next => cases c7
            next => exact hv.elim
          next => exact hv.elim
        next => exact hv.elim
    · exact hv.elim
theorem jmp_at : ∀ (tab : List Op) (t : Nat) (o : Op) (r : List Op), jmp tab t = o :: r → o.1 = t ∧ ∃ pre, tab = pre ++ o :: r
  | [], t, o, r, h => by cases h
  | o2 :: r2, t, o, r, h => by
    unfold jmp at h
    split at h
    next e => cases h; exact ⟨by simpa using e, [], rfl⟩
    next =>
      obtain ⟨h1, pre, h2⟩ := jmp_at r2 t o r h
      exact ⟨h1, o2 :: pre, by rw [h2]; rfl⟩
theorem seq_suf : ∀ (pre cur : List Op), seqOK (pre ++ cur) = true → seqOK cur = true
  | [], cur, h => h
  | [o], cur, h => by
    cases cur with
    | nil => rfl
    | cons o2 r => exact (and3 h).2
  | o :: o2 :: pre, cur, h => seq_suf (o2 :: pre) cur (and3 h).2
/-- known locals may be forgotten -/
theorem wp_msk {al : List Ad} {M : MT} {k : Nat} {P : AV → Hp → Prop} {pc : Nat} {lv : List (Option AV)} {st : List AV} {h : Hp} (m : List Bool) (hw : WP al M k P pc (msk m lv) st h) : WP al M k P pc lv st h := by
  have key : ∀ (m : List Bool) (lv : List (Option AV)) (i : Nat) (v : AV), (msk m lv)[i]? = some (some v) → lv[i]? = some (some v) := by
    intro m lv
    induction lv generalizing m with
    | nil => intro i v h; simp [msk] at h
    | cons w vs ih =>
      intro i v h
      match m, i, h with
      | [], 0, h => simp [msk] at h
      | [], i + 1, h => exact ih [] i v (by simpa [msk] using h)
      | true :: bs, 0, h => simpa [msk] using h
      | true :: bs, i + 1, h => exact ih bs i v (by simpa [msk] using h)
      | false :: bs, 0, h => simp [msk] at h
      | false :: bs, i + 1, h => exact ih bs i v (by simpa [msk] using h)
  intro p l e s m' args below meth c D cA tr B H locs ls hP hS hwf hl hs
  exact hw p l e s m' args below meth c D cA tr B H locs ls hP hS hwf ⟨hl.1, hl.2.1, fun i v hv => hl.2.2 i v (key m lv i v hv)⟩ hs
theorem stp_ok {al : List Ad} {M : MT} {k : Nat} {P : AV → Hp → Prop} {tab nx : List Op} {rk : Nat} {K : List Op → List (Option AV) → List AV → Hp → Prop} {o : Op} {lv : List (Option AV)} {st : List AV} {h : Hp} (hok : Okal al) (ho : okOp M o = true) (hrk : rkOK rk M.2.2.2 = true) (kn : ∀ lv st h, K nx lv st h → WP al M k P (o.1 + o.2.2.1) lv st h) (kj : ∀ t lv st h, K (jmp tab t) lv st h → WP al M k P t lv st h) (hv : stp al tab k M.2.2.1 P rk K o nx lv st h) : WP al M k P o.1 lv st h := by
  obtain ⟨pc, ins, len, aux, Mc⟩ := o
  unfold okOp at ho
  obtain ⟨ho, hc⟩ := and3 ho
  obtain ⟨hd0, hlen⟩ := and3 ho
  have hd : decode M.2.1 pc = .ok (ins, len) := by
    dsimp only at hd0
    split at hd0
    next q e => rw [e, of_decide_eq_true hd0]
    next => cases hd0
  have hl : isSw ins = false → len = lnf ins := fun e => by
    rw [show isSw _ = false from e, Bool.false_or] at hlen
    simpa using hlen
  unfold stp at hv
  dsimp only at hv hc kn hlen ⊢
  split at hv
  next v e =>
    have e2 : isSw ins = false := by
      cases ins <;> first | rfl | (simp [ldv] at e; done)
    have := hl e2
    subst this
    exact ldv_ok hd e (kn _ _ _ hv)
  next =>
    split at hv
    next st' e =>
      have e2 : isSw ins = false := by
        cases ins <;> first | rfl | (simp [pur] at e; done)
      have := hl e2
      subst this
      exact pur_ok hd hc e (kn _ _ _ hv)
    next =>
      split at hv
      next lv' st' e =>
        have e2 : isSw ins = false := by
          cases ins <;> first | rfl | (simp [sto] at e; done)
        have := hl e2
        subst this
        exact sto_ok hd e (kn _ _ _ hv)
      next =>
        split at hv
        next c st' e =>
          have e2 : isSw ins = false := by
            cases ins <;> first | rfl | (simp [bra] at e; done)
          have := hl e2
          subst this
          exact bra_ok hd hc e (fun q => kj _ _ _ _ (hv.1 q)) (fun q => kn _ _ _ (hv.2 q))
        next => exact rst_ok hok hd hlen hc hrk kn kj hv
theorem vc_ok {al : List Ad} {M : MT} {k : Nat} {P : AV → Hp → Prop} {tab : List Op} {rk : Nat} {stops : List (Nat × List Bool)} (hok : Okal al) (ht : tabOK M rk tab = true) : ∀ (n : Nat) (b : Bool) (pre : List Op) (o : Op) (r : List Op) (lv : List (Option AV)) (st : List AV) (h : Hp), tab = pre ++ o :: r → vc al tab stops k M.2.2.1 P rk (fun pc lv st h => WP al M k P pc lv st h) n b (o :: r) lv st h → WP al M k P o.1 lv st h := by
  have ht' := ht
  unfold tabOK at ht
  obtain ⟨ht, hrk⟩ := and3 ht
  obtain ⟨ht, hpl⟩ := and3 ht
  obtain ⟨hall, hseq⟩ := and3 ht
  intro n
  induction n with
  | zero => intro b pre o r lv st h e hv; exact hv.elim
  | succ n ih =>
    intro b pre o r lv st h e hv
    have ho : okOp M o = true := List.all_eq_true.mp hall o (by rw [e]; exact List.mem_append_right _ List.mem_cons_self)
    have hsq : seqOK (o :: r) = true := seq_suf pre (o :: r) (by rw [← e]; exact hseq)
    have kn : ∀ lv st h, vc al tab stops k M.2.2.1 P rk (fun pc lv st h => WP al M k P pc lv st h) n true r lv st h → WP al M k P (o.1 + o.2.2.1) lv st h := by
      intro lv st h hv
      cases r with
      | nil => cases n <;> exact hv.elim
      | cons o2 r2 =>
        have e2 : o2.1 = o.1 + o.2.2.1 := by simpa using (and3 hsq).1
        rw [← e2]
        exact ih true (pre ++ [o]) o2 r2 lv st h (by rw [e, List.append_assoc]; rfl) hv
    have kj : ∀ t lv st h, vc al tab stops k M.2.2.1 P rk (fun pc lv st h => WP al M k P pc lv st h) n true (jmp tab t) lv st h → WP al M k P t lv st h := by
      intro t lv st h hv
      cases hj : jmp tab t with
      | nil => rw [hj] at hv; cases n <;> exact hv.elim
      | cons o2 r2 =>
        obtain ⟨e2, pre2, e3⟩ := jmp_at tab t o2 r2 hj
        rw [hj] at hv
        rw [← e2]
        exact ih true pre2 o2 r2 lv st h e3 hv
    cases b with
    | false => exact stp_ok hok ho hrk kn kj hv
    | true =>
      have hv' : (match stopAt stops o.1 with
        | some m => WP al M k P o.1 (msk m lv) st h
        | none => stp al tab k M.2.2.1 P rk (vc al tab stops k M.2.2.1 P rk (fun pc lv st h => WP al M k P pc lv st h) n true) o r lv st h) := hv
      split at hv'
      next m _ => exact wp_msk m hv'
      next => exact stp_ok hok ho hrk kn kj hv'
/-- a walk from place t on -/
theorem wp_at {al : List Ad} {M : MT} {k : Nat} {P : AV → Hp → Prop} {rk : Nat} {lv : List (Option AV)} {st : List AV} {h : Hp} (tab : List Op) (stops : List (Nat × List Bool)) (n t : Nat) (hok : Okal al) (ht : tabOK M rk tab = true) (hv : vc al tab stops k M.2.2.1 P rk (fun pc lv st h => WP al M k P pc lv st h) n false (jmp tab t) lv st h) : WP al M k P t lv st h := by
  cases hj : jmp tab t with
  | nil => rw [hj] at hv; cases n <;> exact hv.elim
  | cons o2 r2 =>
    obtain ⟨e2, pre2, e3⟩ := jmp_at tab t o2 r2 hj
    rw [hj] at hv
    rw [← e2]
    exact vc_ok hok ht n false pre2 o2 r2 lv st h e3 hv
theorem tab_pl {M : MT} {rk : Nat} {tab : List Op} (ht : tabOK M rk tab = true) : plainName M.1.cls = true := by
  unfold tabOK at ht
  exact (and3 (and3 ht).1).2
/-- a method's contract by a walk from its entry -/
theorem ct_vc {al : List Ad} {M : MT} {k : Nat} {P : AV → Hp → Prop} {rk : Nat} {As : List AV} {h : Hp} (tab : List Op) (stops : List (Nat × List Bool)) (n : Nat) (hok : Okal al) (ht : tabOK M rk tab = true) (hn : Nat.ble (lvin As).length M.2.2.1 = true) (hv : vc al tab stops k M.2.2.1 P rk (fun pc lv st h => WP al M k P pc lv st h) n false (jmp tab 0) (lve M.2.2.1 As) [] h) : Ct al M k As h P :=
  ct_wp (tab_pl ht) (Nat.le_of_ble_eq_true hn) (wp_at tab stops n 0 hok ht hv)
end SOUND2
end
section
/-! the methods -/
def mX0_init : MT := (yX0_init, cX0_init, 3, none)
def mX0_swapRules : MT := (yX0_swapRules, cX0_swapRules, 2, none)
def mX0_ableBits : MT := (yX0_ableBits, cX0_ableBits, 4, some .int)
def mX0_firstWins : MT := (yX0_firstWins, cX0_firstWins, 5, some .boolean)
def mX0_rulesDiffer : MT := (yX0_rulesDiffer, cX0_rulesDiffer, 4, some .boolean)
def mX0_hindrance : MT := (yX0_hindrance, cX0_hindrance, 4, some .int)
def mX0_meet : MT := (yX0_meet, cX0_meet, 7, some .int)
def mX0_payHire : MT := (yX0_payHire, cX0_payHire, 3, none)
def mX0_excite : MT := (yX0_excite, cX0_excite, 8, none)
def mX0_judge : MT := (yX0_judge, cX0_judge, 4, none)
def mX0_handSword : MT := (yX0_handSword, cX0_handSword, 3, none)
def mX0_pass : MT := (yX0_pass, cX0_pass, 4, some .int)
def mX0_sing : MT := (yX0_sing, cX0_sing, 4, some .int)
def mX0_buyFree : MT := (yX0_buyFree, cX0_buyFree, 5, some .int)
def mX1_init : MT := (yX1_init, cX1_init, 1, none)
def mX1_enter : MT := (yX1_enter, cX1_enter, 3, some .int)
def mX1_spares : MT := (yX1_spares, cX1_spares, 2, some .boolean)
def mX1_up : MT := (yX1_up, cX1_up, 10, some .int)
def mX1_sparesIf : MT := (yX1_sparesIf, cX1_sparesIf, 5, some .boolean)
def mX1_fewestToWin : MT := (yX1_fewestToWin, cX1_fewestToWin, 5, some .int)
def mX1_tipping : MT := (yX1_tipping, cX1_tipping, 5, some .int)
def mX2_init : MT := (yX2_init, cX2_init, 1, none)
def mX2_add : MT := (yX2_add, cX2_add, 3, some .boolean)
def mX2_canBe : MT := (yX2_canBe, cX2_canBe, 2, some .boolean)
def mX2_fitting : MT := (yX2_fitting, cX2_fitting, 5, some .int)
def mX2_fitsAll : MT := (yX2_fitsAll, cX2_fitsAll, 5, some .boolean)
def mX2_fitsOne : MT := (yX2_fitsOne, cX2_fitsOne, 6, some .boolean)
def mX2_countHiredFor : MT := (yX2_countHiredFor, cX2_countHiredFor, 6, some .int)
def mX3_init : MT := (yX3_init, cX3_init, 3, none)
def mX3_has : MT := (yX3_has, cX3_has, 2, some .boolean)
def mX3_of : MT := (yX3_of, cX3_of, 3, some .int)
def mX3_sum : MT := (yX3_sum, cX3_sum, 5, some .int)
def mX3_read : MT := (yX3_read, cX3_read, 2, some .int)
def mX3_enter : MT := (yX3_enter, cX3_enter, 1, some .int)
def mX3_readLine : MT := (yX3_readLine, cX3_readLine, 5, some .boolean)
def mX3_readPart : MT := (yX3_readPart, cX3_readPart, 2, some .int)
def mX3_readArms : MT := (yX3_readArms, cX3_readArms, 2, some .int)
def mX3_armsOf : MT := (yX3_armsOf, cX3_armsOf, 1, some .int)
def mX3_readAboveNothing : MT := (yX3_readAboveNothing, cX3_readAboveNothing, 2, some .int)
def mX4_init : MT := (yX4_init, cX4_init, 2, none)
def mX4_clear : MT := (yX4_clear, cX4_clear, 1, none)
def mX4_push : MT := (yX4_push, cX4_push, 2, none)
def mX4_pop : MT := (yX4_pop, cX4_pop, 2, none)
def mX4_shelve : MT := (yX4_shelve, cX4_shelve, 3, some .boolean)
def mX4_fetch : MT := (yX4_fetch, cX4_fetch, 3, some .boolean)
def mX5_init : MT := (yX5_init, cX5_init, 1, none)
def mX5_clear : MT := (yX5_clear, cX5_clear, 1, none)
def mX5_add : MT := (yX5_add, cX5_add, 3, none)
def mX5_addFraction : MT := (yX5_addFraction, cX5_addFraction, 7, none)
def mX5_commonDivisor : MT := (yX5_commonDivisor, cX5_commonDivisor, 11, some .long)
def mX6_init : MT := (yX6_init, cX6_init, 1, none)
def mX6_read : MT := (yX6_read, cX6_read, 2, some .int)
def mX6_step : MT := (yX6_step, cX6_step, 2, none)
def mX6_readLevel : MT := (yX6_readLevel, cX6_readLevel, 7, some .boolean)
def mX6_levelOf : MT := (yX6_levelOf, cX6_levelOf, 1, some .int)
def mX6_readSigned : MT := (yX6_readSigned, cX6_readSigned, 5, some .boolean)
def mX6_readThing : MT := (yX6_readThing, cX6_readThing, 4, some .boolean)
def mX6_isLetter : MT := (yX6_isLetter, cX6_isLetter, 1, some .boolean)
def mX6_value : MT := (yX6_value, cX6_value, 8, some .int)
def mX6_letter : MT := (yX6_letter, cX6_letter, 5, some .int)
def mX6_joined : MT := (yX6_joined, cX6_joined, 3, some .int)
def mX7_init : MT := (yX7_init, cX7_init, 3, none)
def mX7_enter : MT := (yX7_enter, cX7_enter, 5, none)
def mX7_leastDead : MT := (yX7_leastDead, cX7_leastDead, 3, some .int)
def mX7_addPair : MT := (yX7_addPair, cX7_addPair, 10, none)
def mX7_mostFavour : MT := (yX7_mostFavour, cX7_mostFavour, 4, some .int)
def mX7_addFight : MT := (yX7_addFight, cX7_addFight, 5, none)
def mX7_compare : MT := (yX7_compare, cX7_compare, 3, none)
def mX8_init : MT := (yX8_init, cX8_init, 1, none)
def mX8_take : MT := (yX8_take, cX8_take, 2, none)
def mX8_favour : MT := (yX8_favour, cX8_favour, 2, some .int)
def mX8_hurt : MT := (yX8_hurt, cX8_hurt, 2, some .int)
def mX8_fought : MT := (yX8_fought, cX8_fought, 2, some .int)
def mX8_won : MT := (yX8_won, cX8_won, 2, some .int)
def mX8_fate : MT := (yX8_fate, cX8_fate, 2, some .int)
def mX8_means : MT := (yX8_means, cX8_means, 1, some .int)
def mX8_isHere : MT := (yX8_isHere, cX8_isHere, 2, some .boolean)
def mX8_isDead : MT := (yX8_isDead, cX8_isDead, 2, some .boolean)
def mX8_canFight : MT := (yX8_canFight, cX8_canFight, 2, some .boolean)
def mX8_enter : MT := (yX8_enter, cX8_enter, 3, none)
def mX8_like : MT := (yX8_like, cX8_like, 3, none)
def mX8_pay : MT := (yX8_pay, cX8_pay, 3, none)
def mX8_bits : MT := (yX8_bits, cX8_bits, 5, some .int)
def mX8_favourOf : MT := (yX8_favourOf, cX8_favourOf, 4, some .int)
def mX9_init : MT := (yX9_init, cX9_init, 1, none)
def mX9_append : MT := (yX9_append, cX9_append, 3, some .boolean)
def mX9_cut : MT := (yX9_cut, cX9_cut, 2, some .boolean)
def mX9_clear : MT := (yX9_clear, cX9_clear, 1, none)
def mX9_isEmpty : MT := (yX9_isEmpty, cX9_isEmpty, 1, some .boolean)
def mX9_put : MT := (yX9_put, cX9_put, 3, none)
def mX9_start : MT := (yX9_start, cX9_start, 2, none)
def mX9_ended : MT := (yX9_ended, cX9_ended, 1, some .boolean)
def mX9_peek : MT := (yX9_peek, cX9_peek, 1, some .int)
def mX9_next : MT := (yX9_next, cX9_next, 2, some .int)
def mX9_take : MT := (yX9_take, cX9_take, 2, some .boolean)
def mX9_takeDigit : MT := (yX9_takeDigit, cX9_takeDigit, 4, some .int)
def mX9_takeNumber : MT := (yX9_takeNumber, cX9_takeNumber, 5, some .int)
def mX10_init : MT := (yX10_init, cX10_init, 1, none)
def mX10_clear : MT := (yX10_clear, cX10_clear, 2, none)
def mX10_isAbove : MT := (yX10_isAbove, cX10_isAbove, 3, some .boolean)
def mX10_scratch : MT := (yX10_scratch, cX10_scratch, 5, none)
def mX10_countBelow : MT := (yX10_countBelow, cX10_countBelow, 4, some .int)
def mX10_canFollow : MT := (yX10_canFollow, cX10_canFollow, 3, some .boolean)
def mX10_leastNext : MT := (yX10_leastNext, cX10_leastNext, 3, some .int)
def mX10_tally : MT := (yX10_tally, cX10_tally, 5, some .int)
def mX10_ordersAt : MT := (yX10_ordersAt, cX10_ordersAt, 5, some .int)
def mX10_ordersWithAbove : MT := (yX10_ordersWithAbove, cX10_ordersWithAbove, 5, some .int)
def mX11_init : MT := (yX11_init, cX11_init, 1, none)
def mX11_sign : MT := (yX11_sign, cX11_sign, 2, some .int)
def mX11_end : MT := (yX11_end, cX11_end, 2, some .boolean)
def mX11_fighters : MT := (yX11_fighters, cX11_fighters, 5, some .int)
def mX11_seats : MT := (yX11_seats, cX11_seats, 2, some .int)
def mX11_rule : MT := (yX11_rule, cX11_rule, 2, some .int)
def mX11_fighter : MT := (yX11_fighter, cX11_fighter, 3, some .int)
def mX11_seat : MT := (yX11_seat, cX11_seat, 3, some .int)
def mX11_purse : MT := (yX11_purse, cX11_purse, 2, some .int)
def mX11_strength : MT := (yX11_strength, cX11_strength, 3, some .int)
def mX11_set : MT := (yX11_set, cX11_set, 4, some .int)
def mX11_sheet : MT := (yX11_sheet, cX11_sheet, 9, some .int)
def mX11_sheetEntry : MT := (yX11_sheetEntry, cX11_sheetEntry, 3, some .int)
def mX11_isOwner : MT := (yX11_isOwner, cX11_isOwner, 1, some .boolean)
def mX11_fight : MT := (yX11_fight, cX11_fight, 4, some .int)
def mX11_days : MT := (yX11_days, cX11_days, 2, some .int)
def mX11_song : MT := (yX11_song, cX11_song, 3, some .int)
def mX11_frees : MT := (yX11_frees, cX11_frees, 2, some .int)
def mX11_games : MT := (yX11_games, cX11_games, 4, some .int)
def mX11_undo : MT := (yX11_undo, cX11_undo, 1, some .int)
def mX11_remembered : MT := (yX11_remembered, cX11_remembered, 2, some .int)
def mX11_wrongAct : MT := (yX11_wrongAct, cX11_wrongAct, 3, some .int)
def mX11_playActs : MT := (yX11_playActs, cX11_playActs, 3, some .int)
def mX11_playAct : MT := (yX11_playAct, cX11_playAct, 3, some .int)
def mX11_moreSince : MT := (yX11_moreSince, cX11_moreSince, 4, some .int)
def mX11_thumbs : MT := (yX11_thumbs, cX11_thumbs, 4, some .int)
def mX11_mercy : MT := (yX11_mercy, cX11_mercy, 1, some .int)
def mX11_claque : MT := (yX11_claque, cX11_claque, 3, some .int)
def mX11_tips : MT := (yX11_tips, cX11_tips, 3, some .int)
def mX11_would : MT := (yX11_would, cX11_would, 4, some .int)
def mX11_beats : MT := (yX11_beats, cX11_beats, 5, some .int)
def mX11_card : MT := (yX11_card, cX11_card, 6, some .int)
def mX11_even : MT := (yX11_even, cX11_even, 9, some .int)
def mX11_career : MT := (yX11_career, cX11_career, 5, some .int)
def mX11_sword : MT := (yX11_sword, cX11_sword, 4, some .int)
def mX11_worth : MT := (yX11_worth, cX11_worth, 8, some .int)
def mX11_hires : MT := (yX11_hires, cX11_hires, 5, some .int)
def mX11_isBetterHire : MT := (yX11_isBetterHire, cX11_isBetterHire, 4, some .boolean)
def mX11_foresee : MT := (yX11_foresee, cX11_foresee, 3, some .int)
def mX11_foreseenGain : MT := (yX11_foreseenGain, cX11_foreseenGain, 4, some .int)
def mX11_score : MT := (yX11_score, cX11_score, 3, some .int)
def mX11_wash : MT := (yX11_wash, cX11_wash, 2, some .int)
def mX11_ranks : MT := (yX11_ranks, cX11_ranks, 5, some .int)
def mX11_stands : MT := (yX11_stands, cX11_stands, 5, some .int)
def mX11_places : MT := (yX11_places, cX11_places, 4, some .int)
def mX11_watch : MT := (yX11_watch, cX11_watch, 8, some .int)
def mX11_odds : MT := (yX11_odds, cX11_odds, 7, some .int)
def mX11_till : MT := (yX11_till, cX11_till, 9, some .int)
def mX11_heard : MT := (yX11_heard, cX11_heard, 3, some .int)
def mX11_forget : MT := (yX11_forget, cX11_forget, 2, some .int)
def mX11_fits : MT := (yX11_fits, cX11_fits, 2, some .int)
def mX11_ask : MT := (yX11_ask, cX11_ask, 8, some .int)
def mX11_power : MT := (yX11_power, cX11_power, 6, some .long)
def mX11_ways : MT := (yX11_ways, cX11_ways, 5, some .long)
def mX11_rests : MT := (yX11_rests, cX11_rests, 5, some .int)
def mX11_law : MT := (yX11_law, cX11_law, 5, some .int)
def mX11_years : MT := (yX11_years, cX11_years, 8, some .int)
def mX11_nextDraw : MT := (yX11_nextDraw, cX11_nextDraw, 1, some .int)
def mX11_share : MT := (yX11_share, cX11_share, 3, some .int)
def mX11_isBestBreak : MT := (yX11_isBestBreak, cX11_isBestBreak, 4, some .boolean)
def mX11_keep : MT := (yX11_keep, cX11_keep, 2, some .boolean)
def mX11_again : MT := (yX11_again, cX11_again, 2, some .boolean)
def mX11_count : MT := (yX11_count, cX11_count, 2, some .int)
def mX11_row : MT := (yX11_row, cX11_row, 2, some .long)
def mX12_init : MT := (yX12_init, cX12_init, 1, none)
def mX12_thrown : MT := (yX12_thrown, cX12_thrown, 1, some .int)
def mX12_in : MT := (yX12_in, cX12_in, 3, some .boolean)
def mX12_has : MT := (yX12_has, cX12_has, 2, some .boolean)
def mX12_lost : MT := (yX12_lost, cX12_lost, 1, some .int)
def mX12_tell : MT := (yX12_tell, cX12_tell, 3, none)
def mX12_isMan : MT := (yX12_isMan, cX12_isMan, 2, some .boolean)
def mX12_arms : MT := (yX12_arms, cX12_arms, 2, some .int)
def mX12_skill : MT := (yX12_skill, cX12_skill, 2, some .int)
def mX12_hire : MT := (yX12_hire, cX12_hire, 2, some .int)
def mX12_owner : MT := (yX12_owner, cX12_owner, 2, some .int)
def mX12_sign : MT := (yX12_sign, cX12_sign, 3, some .int)
def mX12_end : MT := (yX12_end, cX12_end, 2, some .boolean)
def mX12_begin : MT := (yX12_begin, cX12_begin, 4, none)
def mX12_beginText : MT := (yX12_beginText, cX12_beginText, 2, none)
def mX12_here : MT := (yX12_here, cX12_here, 1, some .int)
def mX12_fine : MT := (yX12_fine, cX12_fine, 1, some .boolean)
def mX12_fault : MT := (yX12_fault, cX12_fault, 2, none)
def mX12_passes : MT := (yX12_passes, cX12_passes, 2, some .boolean)
def mX12_need : MT := (yX12_need, cX12_need, 2, none)
def mX12_oneOf : MT := (yX12_oneOf, cX12_oneOf, 3, some .int)
def mX12_number : MT := (yX12_number, cX12_number, 4, some .int)
def mX12_wasRight : MT := (yX12_wasRight, cX12_wasRight, 1, some .boolean)
def mX12_told : MT := (yX12_told, cX12_told, 1, none)
def mX12_armsBy : MT := (yX12_armsBy, cX12_armsBy, 1, some .int)
def mX12_readMan : MT := (yX12_readMan, cX12_readMan, 2, none)
def mX12_fighters : MT := (yX12_fighters, cX12_fighters, 5, some .int)
def mX12_seats : MT := (yX12_seats, cX12_seats, 4, some .int)
def mX12_held : MT := (yX12_held, cX12_held, 3, some .int)
def mX12_sum : MT := (yX12_sum, cX12_sum, 5, some .int)
def mX12_product : MT := (yX12_product, cX12_product, 5, some .int)
def mX12_letterOf : MT := (yX12_letterOf, cX12_letterOf, 1, some .int)
def mX12_thing : MT := (yX12_thing, cX12_thing, 4, some .int)
def mX12_readRule : MT := (yX12_readRule, cX12_readRule, 1, some .boolean)
def mX12_rule : MT := (yX12_rule, cX12_rule, 3, some .int)
def mX12_strengthOf : MT := (yX12_strengthOf, cX12_strengthOf, 5, some .int)
def mX12_fighter : MT := (yX12_fighter, cX12_fighter, 3, some .int)
def mX12_seat : MT := (yX12_seat, cX12_seat, 3, some .int)
def mX12_purse : MT := (yX12_purse, cX12_purse, 2, some .int)
def mX12_areTwo : MT := (yX12_areTwo, cX12_areTwo, 3, some .boolean)
def mX12_strength : MT := (yX12_strength, cX12_strength, 3, some .int)
def mX12_set : MT := (yX12_set, cX12_set, 4, some .int)
def mX12_sheet : MT := (yX12_sheet, cX12_sheet, 9, some .int)
def mX12_upFor : MT := (yX12_upFor, cX12_upFor, 8, some .int)
def mX12_peopleOf : MT := (yX12_peopleOf, cX12_peopleOf, 4, some .int)
def mX12_allSeats : MT := (yX12_allSeats, cX12_allSeats, 1, some .int)
def mX12_isSpared : MT := (yX12_isSpared, cX12_isSpared, 4, some .boolean)
def mX12_isSparedNow : MT := (yX12_isSparedNow, cX12_isSparedNow, 3, some .boolean)
def mX12_lay : MT := (yX12_lay, cX12_lay, 4, none)
def mX12_remember : MT := (yX12_remember, cX12_remember, 3, none)
def mX12_pays : MT := (yX12_pays, cX12_pays, 5, none)
def mX12_likes : MT := (yX12_likes, cX12_likes, 3, none)
def mX12_pairOf : MT := (yX12_pairOf, cX12_pairOf, 3, some .int)
def mX12_canFight : MT := (yX12_canFight, cX12_canFight, 3, some .boolean)
def mX12_refusesFight : MT := (yX12_refusesFight, cX12_refusesFight, 4, some .int)
def mX12_goFight : MT := (yX12_goFight, cX12_goFight, 8, some .int)
def mX12_goesFree : MT := (yX12_goesFree, cX12_goesFree, 3, none)
def mX12_fight : MT := (yX12_fight, cX12_fight, 5, some .int)
def mX12_goDays : MT := (yX12_goDays, cX12_goDays, 4, none)
def mX12_days : MT := (yX12_days, cX12_days, 2, some .int)
def mX12_refusesSong : MT := (yX12_refusesSong, cX12_refusesSong, 3, some .int)
def mX12_goSong : MT := (yX12_goSong, cX12_goSong, 3, none)
def mX12_song : MT := (yX12_song, cX12_song, 4, some .int)
def mX12_refusesFree : MT := (yX12_refusesFree, cX12_refusesFree, 2, some .int)
def mX12_goFree : MT := (yX12_goFree, cX12_goFree, 2, none)
def mX12_frees : MT := (yX12_frees, cX12_frees, 3, some .int)
def mX12_those : MT := (yX12_those, cX12_those, 5, some .int)
def mX12_games : MT := (yX12_games, cX12_games, 3, some .int)
def mX12_readAct : MT := (yX12_readAct, cX12_readAct, 3, none)
def mX12_act : MT := (yX12_act, cX12_act, 4, some .boolean)
def mX12_undo : MT := (yX12_undo, cX12_undo, 2, some .int)
def mX12_thumbs : MT := (yX12_thumbs, cX12_thumbs, 3, some .int)
def mX12_mercy : MT := (yX12_mercy, cX12_mercy, 2, some .int)
def mX12_claque : MT := (yX12_claque, cX12_claque, 4, some .int)
def mX12_tips : MT := (yX12_tips, cX12_tips, 4, some .int)
def mX12_tryFight : MT := (yX12_tryFight, cX12_tryFight, 5, some .int)
def mX12_would : MT := (yX12_would, cX12_would, 5, some .int)
def mX12_beats : MT := (yX12_beats, cX12_beats, 5, some .int)
def mX12_goCard : MT := (yX12_goCard, cX12_goCard, 9, none)
def mX12_card : MT := (yX12_card, cX12_card, 3, some .int)
def mX12_even : MT := (yX12_even, cX12_even, 9, some .int)
def mX12_goCareer : MT := (yX12_goCareer, cX12_goCareer, 6, none)
def mX12_career : MT := (yX12_career, cX12_career, 4, some .int)
def mX12_sword : MT := (yX12_sword, cX12_sword, 4, some .int)
def mX12_worth : MT := (yX12_worth, cX12_worth, 8, some .int)
def mX12_hiresOf : MT := (yX12_hiresOf, cX12_hiresOf, 4, some .int)
def mX12_favoursOf : MT := (yX12_favoursOf, cX12_favoursOf, 4, some .int)
def mX12_hires : MT := (yX12_hires, cX12_hires, 6, some .int)
def mX12_score : MT := (yX12_score, cX12_score, 4, some .int)
def mX12_wash : MT := (yX12_wash, cX12_wash, 3, some .int)
def mX12_canCome : MT := (yX12_canCome, cX12_canCome, 6, some .boolean)
def mX12_countOrders : MT := (yX12_countOrders, cX12_countOrders, 6, some .int)
def mX12_ranks : MT := (yX12_ranks, cX12_ranks, 5, some .int)
def mX12_stands : MT := (yX12_stands, cX12_stands, 7, some .int)
def mX12_places : MT := (yX12_places, cX12_places, 4, some .int)
def mX12_watch : MT := (yX12_watch, cX12_watch, 7, some .int)
def mX12_common : MT := (yX12_common, cX12_common, 4, some .long)
def mX12_tellPart : MT := (yX12_tellPart, cX12_tellPart, 7, none)
def mX12_power : MT := (yX12_power, cX12_power, 6, some .long)
def mX12_choose : MT := (yX12_choose, cX12_choose, 5, some .long)
def mX12_odds : MT := (yX12_odds, cX12_odds, 7, some .int)
def mX12_till : MT := (yX12_till, cX12_till, 7, some .int)
def mX12_heard : MT := (yX12_heard, cX12_heard, 5, some .int)
def mX12_forget : MT := (yX12_forget, cX12_forget, 2, some .int)
def mX12_fits : MT := (yX12_fits, cX12_fits, 4, some .boolean)
def mX12_fitting : MT := (yX12_fitting, cX12_fitting, 5, some .int)
def mX12_fits_ : MT := (yX12_fits_, cX12_fits_, 1, some .int)
def mX12_ask : MT := (yX12_ask, cX12_ask, 7, some .int)
def mX12_gets : MT := (yX12_gets, cX12_gets, 3, some .int)
def mX12_isBest : MT := (yX12_isBest, cX12_isBest, 4, some .boolean)
def mX12_rests : MT := (yX12_rests, cX12_rests, 5, some .int)
def mX12_winsFirst : MT := (yX12_winsFirst, cX12_winsFirst, 3, some .boolean)
def mX12_law : MT := (yX12_law, cX12_law, 7, some .int)
def mX12_draw : MT := (yX12_draw, cX12_draw, 2, some .int)
def mX12_years : MT := (yX12_years, cX12_years, 7, some .int)
def mX12_keep : MT := (yX12_keep, cX12_keep, 2, some .boolean)
def mX12_again : MT := (yX12_again, cX12_again, 3, some .boolean)
def mX12_count : MT := (yX12_count, cX12_count, 2, some .int)
def mX12_row : MT := (yX12_row, cX12_row, 2, some .long)
def mJ6_bitCount_0f7a4 : MT := (yJ6_bitCount_0f7a4, cJ6_bitCount_0f7a4, 1, some .int)
def mJ0_length_8abf5 : MT := (yJ0_length_8abf5, cJ0_length_8abf5, 1, some .int)
def mJ0_charAt_5068e : MT := (yJ0_charAt_5068e, cJ0_charAt_5068e, 2, some .char)
end
section
def tX0_swapRules : List Op := [(0, .aload_n 0, 1, [], noM),
  (1, .getfield 12, 3, [0, 2, 3, 0, 6, 0, 228], noM),
  (4, .astore_n 1, 1, [], noM),
  (5, .aload_n 0, 1, [], noM),
  (6, .aload_n 0, 1, [], noM),
  (7, .getfield 18, 3, [0, 3, 3, 1, 6, 0, 230], noM),
  (10, .putfield 12, 3, [0, 2, 3, 0, 6, 0, 228], noM),
  (13, .aload_n 0, 1, [], noM),
  (14, .aload_n 1, 1, [], noM),
  (15, .putfield 18, 3, [0, 3, 3, 1, 6, 0, 230], noM),
  (18, .return_, 1, [], noM)]
set_option maxRecDepth 100000 in
theorem kX0_swapRules : tabOK mX0_swapRules 3 tX0_swapRules = true := by decide +kernel
def tX0_ableBits : List Op := [(0, .iconst 0, 1, [0, 0], noM),
  (1, .istore_n 2, 1, [], noM),
  (2, .iconst 0, 1, [0, 0], noM),
  (3, .istore_n 3, 1, [], noM),
  (4, .iload_n 3, 1, [], noM),
  (5, .aload_n 0, 1, [], noM),
  (6, .getfield 25, 3, [0, 0, 2, 3, 0, 0, 226], noM),
  (9, .getfield 33, 3, [3, 3, 0, 0, 0, 0, 169], noM),
  (12, .if_icmp .ge 27, 3, [39], noM),
  (15, .iload_n 2, 1, [], noM),
  (16, .aload_n 1, 1, [], noM),
  (17, .iload_n 3, 1, [], noM),
  (18, .invokevirtual 38, 3, [8, 1, 1, 681, 682, 683, 91, 684], mX8_canFight),
  (21, .ifCond .eq 9, 3, [30], noM),
  (24, .iconst 1, 1, [0, 1], noM),
  (25, .iload_n 3, 1, [], noM),
  (26, .ishl, 1, [], noM),
  (27, .goto 4, 3, [31], noM),
  (30, .iconst 0, 1, [0, 0], noM),
  (31, .ior, 1, [], noM),
  (32, .istore_n 2, 1, [], noM),
  (33, .iinc 3 1, 3, [0, 1], noM),
  (36, .goto (-32), 3, [4], noM),
  (39, .iload_n 2, 1, [], noM),
  (40, .ireturn, 1, [], noM)]
set_option maxRecDepth 100000 in
theorem kX0_ableBits : tabOK mX0_ableBits 0 tX0_ableBits = true := by decide +kernel
def tX0_firstWins : List Op := [(0, .aload_n 1, 1, [], noM),
  (1, .aload_n 0, 1, [], noM),
  (2, .getfield 25, 3, [0, 0, 2, 3, 0, 0, 226], noM),
  (5, .aload_n 2, 1, [], noM),
  (6, .iload_n 3, 1, [], noM),
  (7, .iload 4, 2, [], noM),
  (9, .invokevirtual 44, 3, [6, 4, 1, 705, 706, 707, 90, 708], mX6_value),
  (12, .aload_n 1, 1, [], noM),
  (13, .aload_n 0, 1, [], noM),
  (14, .getfield 25, 3, [0, 0, 2, 3, 0, 0, 226], noM),
  (17, .aload_n 2, 1, [], noM),
  (18, .iload 4, 2, [], noM),
  (20, .iload_n 3, 1, [], noM),
  (21, .invokevirtual 44, 3, [6, 4, 1, 705, 706, 707, 90, 708], mX6_value),
  (24, .if_icmp .lt 7, 3, [31], noM),
  (27, .iconst 1, 1, [0, 1], noM),
  (28, .goto 4, 3, [32], noM),
  (31, .iconst 0, 1, [0, 0], noM),
  (32, .ireturn, 1, [], noM)]
set_option maxRecDepth 100000 in
theorem kX0_firstWins : tabOK mX0_firstWins 1 tX0_firstWins = true := by decide +kernel
def tX0_rulesDiffer : List Op := [(0, .aload_n 0, 1, [], noM),
  (1, .aload_n 0, 1, [], noM),
  (2, .getfield 12, 3, [0, 2, 3, 0, 6, 0, 228], noM),
  (5, .aload_n 1, 1, [], noM),
  (6, .iload_n 2, 1, [], noM),
  (7, .iload_n 3, 1, [], noM),
  (8, .invokevirtual 48, 3, [0, 4, 1, 701, 702, 703, 89, 704], mX0_firstWins),
  (11, .aload_n 0, 1, [], noM),
  (12, .aload_n 0, 1, [], noM),
  (13, .getfield 18, 3, [0, 3, 3, 1, 6, 0, 230], noM),
  (16, .aload_n 1, 1, [], noM),
  (17, .iload_n 2, 1, [], noM),
  (18, .iload_n 3, 1, [], noM),
  (19, .invokevirtual 48, 3, [0, 4, 1, 701, 702, 703, 89, 704], mX0_firstWins),
  (22, .if_icmp .eq 7, 3, [29], noM),
  (25, .iconst 1, 1, [0, 1], noM),
  (26, .goto 4, 3, [30], noM),
  (29, .iconst 0, 1, [0, 0], noM),
  (30, .ireturn, 1, [], noM)]
set_option maxRecDepth 100000 in
theorem kX0_rulesDiffer : tabOK mX0_rulesDiffer 1 tX0_rulesDiffer = true := by decide +kernel
def tX0_hindrance : List Op := [(0, .aload_n 0, 1, [], noM),
  (1, .getfield 25, 3, [0, 0, 2, 3, 0, 0, 226], noM),
  (4, .iload_n 2, 1, [], noM),
  (5, .invokevirtual 52, 3, [3, 1, 1, 669, 670, 671, 87, 672], mX3_has),
  (8, .ifCond .eq 19, 3, [27], noM),
  (11, .aload_n 0, 1, [], noM),
  (12, .getfield 25, 3, [0, 0, 2, 3, 0, 0, 226], noM),
  (15, .iload_n 3, 1, [], noM),
  (16, .invokevirtual 52, 3, [3, 1, 1, 669, 670, 671, 87, 672], mX3_has),
  (19, .ifCond .eq 8, 3, [27], noM),
  (22, .iload_n 2, 1, [], noM),
  (23, .iload_n 3, 1, [], noM),
  (24, .if_icmp .ne 5, 3, [29], noM),
  (27, .iconst (-1), 1, [1, 1], noM),
  (28, .ireturn, 1, [], noM),
  (29, .aload_n 1, 1, [], noM),
  (30, .iload_n 2, 1, [], noM),
  (31, .invokevirtual 55, 3, [8, 1, 1, 673, 674, 675, 91, 676], mX8_isHere),
  (34, .ifCond .eq 11, 3, [45], noM),
  (37, .aload_n 1, 1, [], noM),
  (38, .iload_n 3, 1, [], noM),
  (39, .invokevirtual 55, 3, [8, 1, 1, 673, 674, 675, 91, 676], mX8_isHere),
  (42, .ifCond .ne 6, 3, [48], noM),
  (45, .bipush (-2), 2, [1, 2], noM),
  (47, .ireturn, 1, [], noM),
  (48, .aload_n 1, 1, [], noM),
  (49, .iload_n 2, 1, [], noM),
  (50, .invokevirtual 38, 3, [8, 1, 1, 681, 682, 683, 91, 684], mX8_canFight),
  (53, .ifCond .eq 15, 3, [68], noM),
  (56, .aload_n 1, 1, [], noM),
  (57, .iload_n 3, 1, [], noM),
  (58, .invokevirtual 38, 3, [8, 1, 1, 681, 682, 683, 91, 684], mX8_canFight),
  (61, .ifCond .eq 7, 3, [68], noM),
  (64, .iconst 0, 1, [0, 0], noM),
  (65, .goto 5, 3, [70], noM),
  (68, .bipush (-3), 2, [1, 3], noM),
  (70, .ireturn, 1, [], noM)]
set_option maxRecDepth 100000 in
theorem kX0_hindrance : tabOK mX0_hindrance 0 tX0_hindrance = true := by decide +kernel
def tX0_meet : List Op := [(0, .aload_n 0, 1, [], noM),
  (1, .aload_n 1, 1, [], noM),
  (2, .iload_n 2, 1, [], noM),
  (3, .iload_n 3, 1, [], noM),
  (4, .invokevirtual 58, 3, [0, 3, 1, 665, 666, 667, 89, 668], mX0_hindrance),
  (7, .istore 4, 2, [], noM),
  (9, .iload 4, 2, [], noM),
  (11, .ifCond .eq 6, 3, [17], noM),
  (14, .iload 4, 2, [], noM),
  (16, .ireturn, 1, [], noM),
  (17, .aload_n 0, 1, [], noM),
  (18, .aload_n 1, 1, [], noM),
  (19, .iload_n 2, 1, [], noM),
  (20, .invokevirtual 62, 3, [0, 2, 0, 690, 692, 6, 89, 693], mX0_payHire),
  (23, .aload_n 0, 1, [], noM),
  (24, .aload_n 1, 1, [], noM),
  (25, .iload_n 3, 1, [], noM),
  (26, .invokevirtual 62, 3, [0, 2, 0, 690, 692, 6, 89, 693], mX0_payHire),
  (29, .aload_n 0, 1, [], noM),
  (30, .aload_n 0, 1, [], noM),
  (31, .getfield 12, 3, [0, 2, 3, 0, 6, 0, 228], noM),
  (34, .aload_n 1, 1, [], noM),
  (35, .iload_n 2, 1, [], noM),
  (36, .iload_n 3, 1, [], noM),
  (37, .invokevirtual 48, 3, [0, 4, 1, 701, 702, 703, 89, 704], mX0_firstWins),
  (40, .ifCond .eq 7, 3, [47], noM),
  (43, .iload_n 2, 1, [], noM),
  (44, .goto 4, 3, [48], noM),
  (47, .iload_n 3, 1, [], noM),
  (48, .istore 5, 2, [], noM),
  (50, .iload_n 2, 1, [], noM),
  (51, .iload_n 3, 1, [], noM),
  (52, .iadd, 1, [], noM),
  (53, .iload 5, 2, [], noM),
  (55, .isub, 1, [], noM),
  (56, .istore 6, 2, [], noM),
  (58, .aload_n 0, 1, [], noM),
  (59, .aload_n 1, 1, [], noM),
  (60, .iload 5, 2, [], noM),
  (62, .iload 6, 2, [], noM),
  (64, .invokevirtual 66, 3, [0, 3, 0, 729, 731, 7, 89, 732], mX0_excite),
  (67, .aload_n 1, 1, [], noM),
  (68, .getfield 70, 3, [8, 0, 2, 33, 1, 0, 253], noM),
  (71, .bipush 8, 2, [0, 8], noM),
  (73, .iload 6, 2, [], noM),
  (75, .iadd, 1, [], noM),
  (76, .bipush 9, 2, [0, 9], noM),
  (78, .aload_n 1, 1, [], noM),
  (79, .iload 6, 2, [], noM),
  (81, .invokevirtual 74, 3, [8, 1, 1, 741, 687, 688, 91, 689], mX8_hurt),
  (84, .iconst 3, 1, [0, 3], noM),
  (85, .iadd, 1, [], noM),
  (86, .invokestatic 78, 3, [2, 696, 645, 106, 646], noM),
  (89, .iastore, 1, [], noM),
  (90, .aload_n 1, 1, [], noM),
  (91, .getfield 70, 3, [8, 0, 2, 33, 1, 0, 253], noM),
  (94, .bipush 16, 2, [0, 16], noM),
  (96, .iload_n 2, 1, [], noM),
  (97, .iadd, 1, [], noM),
  (98, .dup2, 1, [], noM),
  (99, .iaload, 1, [], noM),
  (100, .iconst 1, 1, [0, 1], noM),
  (101, .iadd, 1, [], noM),
  (102, .iastore, 1, [], noM),
  (103, .aload_n 1, 1, [], noM),
  (104, .getfield 70, 3, [8, 0, 2, 33, 1, 0, 253], noM),
  (107, .bipush 16, 2, [0, 16], noM),
  (109, .iload_n 3, 1, [], noM),
  (110, .iadd, 1, [], noM),
  (111, .dup2, 1, [], noM),
  (112, .iaload, 1, [], noM),
  (113, .iconst 1, 1, [0, 1], noM),
  (114, .iadd, 1, [], noM),
  (115, .iastore, 1, [], noM),
  (116, .aload_n 1, 1, [], noM),
  (117, .getfield 70, 3, [8, 0, 2, 33, 1, 0, 253], noM),
  (120, .bipush 24, 2, [0, 24], noM),
  (122, .iload 5, 2, [], noM),
  (124, .iadd, 1, [], noM),
  (125, .dup2, 1, [], noM),
  (126, .iaload, 1, [], noM),
  (127, .iconst 1, 1, [0, 1], noM),
  (128, .iadd, 1, [], noM),
  (129, .iastore, 1, [], noM),
  (130, .aload_n 0, 1, [], noM),
  (131, .aload_n 1, 1, [], noM),
  (132, .iload 6, 2, [], noM),
  (134, .invokevirtual 84, 3, [0, 2, 0, 742, 744, 8, 89, 745], mX0_judge),
  (137, .aload_n 0, 1, [], noM),
  (138, .aload_n 1, 1, [], noM),
  (139, .iload_n 2, 1, [], noM),
  (140, .invokevirtual 87, 3, [0, 2, 0, 751, 753, 9, 89, 754], mX0_handSword),
  (143, .aload_n 0, 1, [], noM),
  (144, .aload_n 1, 1, [], noM),
  (145, .iload_n 3, 1, [], noM),
  (146, .invokevirtual 87, 3, [0, 2, 0, 751, 753, 9, 89, 754], mX0_handSword),
  (149, .iload 5, 2, [], noM),
  (151, .ireturn, 1, [], noM)]
set_option maxRecDepth 100000 in
theorem kX0_meet : tabOK mX0_meet 0 tX0_meet = true := by decide +kernel
def tX0_payHire : List Op := [(0, .aload_n 1, 1, [], noM),
  (1, .aload_n 0, 1, [], noM),
  (2, .getfield 25, 3, [0, 0, 2, 3, 0, 0, 226], noM),
  (5, .iconst 3, 1, [0, 3], noM),
  (6, .iload_n 2, 1, [], noM),
  (7, .invokevirtual 90, 3, [3, 2, 1, 694, 575, 576, 87, 577], mX3_of),
  (10, .aload_n 1, 1, [], noM),
  (11, .invokevirtual 93, 3, [8, 0, 1, 695, 634, 635, 91, 636], mX8_means),
  (14, .aload_n 0, 1, [], noM),
  (15, .getfield 25, 3, [0, 0, 2, 3, 0, 0, 226], noM),
  (18, .iconst 2, 1, [0, 2], noM),
  (19, .iload_n 2, 1, [], noM),
  (20, .invokevirtual 90, 3, [3, 2, 1, 694, 575, 576, 87, 577], mX3_of),
  (23, .invokestatic 78, 3, [2, 696, 645, 106, 646], noM),
  (26, .invokevirtual 97, 3, [8, 2, 0, 697, 698, 699, 91, 700], mX8_pay),
  (29, .return_, 1, [], noM)]
set_option maxRecDepth 100000 in
theorem kX0_payHire : tabOK mX0_payHire 3 tX0_payHire = true := by decide +kernel
def tX0_excite : List Op := [(0, .aload_n 0, 1, [], noM),
  (1, .getfield 25, 3, [0, 0, 2, 3, 0, 0, 226], noM),
  (4, .iconst 0, 1, [0, 0], noM),
  (5, .iload_n 2, 1, [], noM),
  (6, .invokevirtual 90, 3, [3, 2, 1, 694, 575, 576, 87, 577], mX3_of),
  (9, .istore 4, 2, [], noM),
  (11, .aload_n 0, 1, [], noM),
  (12, .getfield 25, 3, [0, 0, 2, 3, 0, 0, 226], noM),
  (15, .iconst 0, 1, [0, 0], noM),
  (16, .iload_n 3, 1, [], noM),
  (17, .invokevirtual 90, 3, [3, 2, 1, 694, 575, 576, 87, 577], mX3_of),
  (20, .istore 5, 2, [], noM),
  (22, .iconst 1, 1, [0, 1], noM),
  (23, .iload 4, 2, [], noM),
  (25, .iload 5, 2, [], noM),
  (27, .invokestatic 78, 3, [2, 696, 645, 106, 646], noM),
  (30, .iconst 4, 1, [0, 4], noM),
  (31, .imul, 1, [], noM),
  (32, .iload 4, 2, [], noM),
  (34, .iload 5, 2, [], noM),
  (36, .invokestatic 101, 3, [1, 733, 648, 106, 649], noM),
  (39, .iadd, 1, [], noM),
  (40, .ishl, 1, [], noM),
  (41, .istore 6, 2, [], noM),
  (43, .aload_n 1, 1, [], noM),
  (44, .getfield 70, 3, [8, 0, 2, 33, 1, 0, 253], noM),
  (47, .bipush 44, 2, [0, 44], noM),
  (49, .iaload, 1, [], noM),
  (50, .iload 6, 2, [], noM),
  (52, .iand, 1, [], noM),
  (53, .ifCond .ne 8, 3, [61], noM),
  (56, .bipush 6, 2, [0, 6], noM),
  (58, .goto 5, 3, [63], noM),
  (61, .bipush (-2), 2, [1, 2], noM),
  (63, .istore 7, 2, [], noM),
  (65, .aload_n 1, 1, [], noM),
  (66, .getfield 70, 3, [8, 0, 2, 33, 1, 0, 253], noM),
  (69, .bipush 44, 2, [0, 44], noM),
  (71, .dup2, 1, [], noM),
  (72, .iaload, 1, [], noM),
  (73, .iload 6, 2, [], noM),
  (75, .ior, 1, [], noM),
  (76, .iastore, 1, [], noM),
  (77, .aload_n 1, 1, [], noM),
  (78, .iload_n 2, 1, [], noM),
  (79, .iload 7, 2, [], noM),
  (81, .invokevirtual 104, 3, [8, 2, 0, 734, 735, 736, 91, 737], mX8_like),
  (84, .aload_n 1, 1, [], noM),
  (85, .iload_n 3, 1, [], noM),
  (86, .iload 7, 2, [], noM),
  (88, .invokevirtual 104, 3, [8, 2, 0, 734, 735, 736, 91, 737], mX8_like),
  (91, .aload_n 1, 1, [], noM),
  (92, .iload_n 2, 1, [], noM),
  (93, .iconst 4, 1, [0, 4], noM),
  (94, .invokevirtual 104, 3, [8, 2, 0, 734, 735, 736, 91, 737], mX8_like),
  (97, .return_, 1, [], noM)]
set_option maxRecDepth 100000 in
theorem kX0_excite : tabOK mX0_excite 3 tX0_excite = true := by decide +kernel
def tX0_judge : List Op := [(0, .bipush 50, 2, [0, 50], noM),
  (2, .aload_n 0, 1, [], noM),
  (3, .getfield 25, 3, [0, 0, 2, 3, 0, 0, 226], noM),
  (6, .iconst 2, 1, [0, 2], noM),
  (7, .iload_n 2, 1, [], noM),
  (8, .invokevirtual 90, 3, [3, 2, 1, 694, 575, 576, 87, 577], mX3_of),
  (11, .imul, 1, [], noM),
  (12, .istore_n 3, 1, [], noM),
  (13, .aload_n 0, 1, [], noM),
  (14, .getfield 29, 3, [0, 1, 2, 1, 0, 0, 227], noM),
  (17, .aload_n 1, 1, [], noM),
  (18, .iload_n 2, 1, [], noM),
  (19, .invokevirtual 107, 3, [8, 1, 1, 746, 723, 724, 91, 725], mX8_favour),
  (22, .invokevirtual 110, 3, [1, 1, 1, 747, 748, 749, 88, 750], mX1_spares),
  (25, .ifCond .ne 35, 3, [60], noM),
  (28, .aload_n 1, 1, [], noM),
  (29, .invokevirtual 93, 3, [8, 0, 1, 695, 634, 635, 91, 636], mX8_means),
  (32, .iload_n 3, 1, [], noM),
  (33, .if_icmp .lt 27, 3, [60], noM),
  (36, .aload_n 1, 1, [], noM),
  (37, .getfield 70, 3, [8, 0, 2, 33, 1, 0, 253], noM),
  (40, .bipush 32, 2, [0, 32], noM),
  (42, .iload_n 2, 1, [], noM),
  (43, .iadd, 1, [], noM),
  (44, .iconst 1, 1, [0, 1], noM),
  (45, .iastore, 1, [], noM),
  (46, .aload_n 1, 1, [], noM),
  (47, .aload_n 0, 1, [], noM),
  (48, .getfield 25, 3, [0, 0, 2, 3, 0, 0, 226], noM),
  (51, .iconst 3, 1, [0, 3], noM),
  (52, .iload_n 2, 1, [], noM),
  (53, .invokevirtual 90, 3, [3, 2, 1, 694, 575, 576, 87, 577], mX3_of),
  (56, .iload_n 3, 1, [], noM),
  (57, .invokevirtual 97, 3, [8, 2, 0, 697, 698, 699, 91, 700], mX8_pay),
  (60, .return_, 1, [], noM)]
set_option maxRecDepth 100000 in
theorem kX0_judge : tabOK mX0_judge 3 tX0_judge = true := by decide +kernel
def tX0_handSword : List Op := [(0, .aload_n 1, 1, [], noM),
  (1, .iload_n 2, 1, [], noM),
  (2, .invokevirtual 115, 3, [8, 1, 1, 755, 756, 757, 91, 758], mX8_isDead),
  (5, .ifCond .ne 25, 3, [30], noM),
  (8, .aload_n 1, 1, [], noM),
  (9, .iload_n 2, 1, [], noM),
  (10, .invokevirtual 118, 3, [8, 1, 1, 759, 719, 720, 91, 721], mX8_fought),
  (13, .aload_n 0, 1, [], noM),
  (14, .getfield 21, 3, [0, 4, 0, 0, 0, 0, 232], noM),
  (17, .if_icmp .lt 13, 3, [30], noM),
  (20, .aload_n 1, 1, [], noM),
  (21, .getfield 70, 3, [8, 0, 2, 33, 1, 0, 253], noM),
  (24, .bipush 32, 2, [0, 32], noM),
  (26, .iload_n 2, 1, [], noM),
  (27, .iadd, 1, [], noM),
  (28, .iconst 2, 1, [0, 2], noM),
  (29, .iastore, 1, [], noM),
  (30, .return_, 1, [], noM)]
set_option maxRecDepth 100000 in
theorem kX0_handSword : tabOK mX0_handSword 3 tX0_handSword = true := by decide +kernel
def tX0_pass : List Op := [(0, .iload_n 2, 1, [], noM),
  (1, .iconst 1, 1, [0, 1], noM),
  (2, .if_icmp .lt 9, 3, [11], noM),
  (5, .iload_n 2, 1, [], noM),
  (6, .bipush 30, 2, [0, 30], noM),
  (8, .if_icmp .le 5, 3, [13], noM),
  (11, .iconst (-1), 1, [1, 1], noM),
  (12, .ireturn, 1, [], noM),
  (13, .iconst 0, 1, [0, 0], noM),
  (14, .istore_n 3, 1, [], noM),
  (15, .iload_n 3, 1, [], noM),
  (16, .aload_n 0, 1, [], noM),
  (17, .getfield 25, 3, [0, 0, 2, 3, 0, 0, 226], noM),
  (20, .getfield 33, 3, [3, 3, 0, 0, 0, 0, 169], noM),
  (23, .if_icmp .ge 37, 3, [60], noM),
  (26, .aload_n 1, 1, [], noM),
  (27, .iload_n 3, 1, [], noM),
  (28, .invokevirtual 55, 3, [8, 1, 1, 673, 674, 675, 91, 676], mX8_isHere),
  (31, .ifCond .eq 23, 3, [54], noM),
  (34, .aload_n 1, 1, [], noM),
  (35, .getfield 70, 3, [8, 0, 2, 33, 1, 0, 253], noM),
  (38, .bipush 8, 2, [0, 8], noM),
  (40, .iload_n 3, 1, [], noM),
  (41, .iadd, 1, [], noM),
  (42, .iconst 0, 1, [0, 0], noM),
  (43, .aload_n 1, 1, [], noM),
  (44, .iload_n 3, 1, [], noM),
  (45, .invokevirtual 74, 3, [8, 1, 1, 741, 687, 688, 91, 689], mX8_hurt),
  (48, .iload_n 2, 1, [], noM),
  (49, .isub, 1, [], noM),
  (50, .invokestatic 101, 3, [1, 733, 648, 106, 649], noM),
  (53, .iastore, 1, [], noM),
  (54, .iinc 3 1, 3, [0, 1], noM),
  (57, .goto (-42), 3, [15], noM),
  (60, .aload_n 1, 1, [], noM),
  (61, .getfield 70, 3, [8, 0, 2, 33, 1, 0, 253], noM),
  (64, .bipush 46, 2, [0, 46], noM),
  (66, .dup2, 1, [], noM),
  (67, .iaload, 1, [], noM),
  (68, .iload_n 2, 1, [], noM),
  (69, .iadd, 1, [], noM),
  (70, .iastore, 1, [], noM),
  (71, .aload_n 1, 1, [], noM),
  (72, .getfield 70, 3, [8, 0, 2, 33, 1, 0, 253], noM),
  (75, .bipush 46, 2, [0, 46], noM),
  (77, .iaload, 1, [], noM),
  (78, .ireturn, 1, [], noM)]
set_option maxRecDepth 100000 in
theorem kX0_pass : tabOK mX0_pass 0 tX0_pass = true := by decide +kernel
def tX0_sing : List Op := [(0, .aload_n 0, 1, [], noM),
  (1, .getfield 25, 3, [0, 0, 2, 3, 0, 0, 226], noM),
  (4, .iload_n 2, 1, [], noM),
  (5, .invokevirtual 52, 3, [3, 1, 1, 669, 670, 671, 87, 672], mX3_has),
  (8, .ifCond .eq 14, 3, [22], noM),
  (11, .iload_n 3, 1, [], noM),
  (12, .iconst 1, 1, [0, 1], noM),
  (13, .if_icmp .lt 9, 3, [22], noM),
  (16, .iload_n 3, 1, [], noM),
  (17, .bipush 99, 2, [0, 99], noM),
  (19, .if_icmp .le 5, 3, [24], noM),
  (22, .iconst (-1), 1, [1, 1], noM),
  (23, .ireturn, 1, [], noM),
  (24, .aload_n 1, 1, [], noM),
  (25, .iload_n 2, 1, [], noM),
  (26, .invokevirtual 55, 3, [8, 1, 1, 673, 674, 675, 91, 676], mX8_isHere),
  (29, .ifCond .ne 6, 3, [35], noM),
  (32, .bipush (-2), 2, [1, 2], noM),
  (34, .ireturn, 1, [], noM),
  (35, .aload_n 1, 1, [], noM),
  (36, .invokevirtual 93, 3, [8, 0, 1, 695, 634, 635, 91, 636], mX8_means),
  (39, .iload_n 3, 1, [], noM),
  (40, .if_icmp .ge 6, 3, [46], noM),
  (43, .bipush (-3), 2, [1, 3], noM),
  (45, .ireturn, 1, [], noM),
  (46, .aload_n 1, 1, [], noM),
  (47, .getfield 70, 3, [8, 0, 2, 33, 1, 0, 253], noM),
  (50, .bipush 45, 2, [0, 45], noM),
  (52, .dup2, 1, [], noM),
  (53, .iaload, 1, [], noM),
  (54, .iload_n 3, 1, [], noM),
  (55, .isub, 1, [], noM),
  (56, .iastore, 1, [], noM),
  (57, .aload_n 1, 1, [], noM),
  (58, .iload_n 2, 1, [], noM),
  (59, .iconst 3, 1, [0, 3], noM),
  (60, .invokevirtual 104, 3, [8, 2, 0, 734, 735, 736, 91, 737], mX8_like),
  (63, .aload_n 1, 1, [], noM),
  (64, .invokevirtual 93, 3, [8, 0, 1, 695, 634, 635, 91, 636], mX8_means),
  (67, .ireturn, 1, [], noM)]
set_option maxRecDepth 100000 in
theorem kX0_sing : tabOK mX0_sing 0 tX0_sing = true := by decide +kernel
def tX0_buyFree : List Op := [(0, .aload_n 0, 1, [], noM),
  (1, .getfield 25, 3, [0, 0, 2, 3, 0, 0, 226], noM),
  (4, .iload_n 2, 1, [], noM),
  (5, .invokevirtual 52, 3, [3, 1, 1, 669, 670, 671, 87, 672], mX3_has),
  (8, .ifCond .ne 5, 3, [13], noM),
  (11, .iconst (-1), 1, [1, 1], noM),
  (12, .ireturn, 1, [], noM),
  (13, .aload_n 1, 1, [], noM),
  (14, .iload_n 2, 1, [], noM),
  (15, .invokevirtual 55, 3, [8, 1, 1, 673, 674, 675, 91, 676], mX8_isHere),
  (18, .ifCond .ne 6, 3, [24], noM),
  (21, .bipush (-2), 2, [1, 2], noM),
  (23, .ireturn, 1, [], noM),
  (24, .bipush 40, 2, [0, 40], noM),
  (26, .aload_n 0, 1, [], noM),
  (27, .getfield 25, 3, [0, 0, 2, 3, 0, 0, 226], noM),
  (30, .iconst 3, 1, [0, 3], noM),
  (31, .iload_n 2, 1, [], noM),
  (32, .invokevirtual 90, 3, [3, 2, 1, 694, 575, 576, 87, 577], mX3_of),
  (35, .iadd, 1, [], noM),
  (36, .istore_n 3, 1, [], noM),
  (37, .bipush 20, 2, [0, 20], noM),
  (39, .aload_n 0, 1, [], noM),
  (40, .getfield 25, 3, [0, 0, 2, 3, 0, 0, 226], noM),
  (43, .iconst 2, 1, [0, 2], noM),
  (44, .iload_n 2, 1, [], noM),
  (45, .invokevirtual 90, 3, [3, 2, 1, 694, 575, 576, 87, 577], mX3_of),
  (48, .imul, 1, [], noM),
  (49, .istore 4, 2, [], noM),
  (51, .aload_n 1, 1, [], noM),
  (52, .getfield 70, 3, [8, 0, 2, 33, 1, 0, 253], noM),
  (55, .iload_n 3, 1, [], noM),
  (56, .iaload, 1, [], noM),
  (57, .iload 4, 2, [], noM),
  (59, .if_icmp .ge 6, 3, [65], noM),
  (62, .bipush (-3), 2, [1, 3], noM),
  (64, .ireturn, 1, [], noM),
  (65, .aload_n 1, 1, [], noM),
  (66, .getfield 70, 3, [8, 0, 2, 33, 1, 0, 253], noM),
  (69, .iload_n 3, 1, [], noM),
  (70, .dup2, 1, [], noM),
  (71, .iaload, 1, [], noM),
  (72, .iload 4, 2, [], noM),
  (74, .isub, 1, [], noM),
  (75, .iastore, 1, [], noM),
  (76, .aload_n 1, 1, [], noM),
  (77, .getfield 70, 3, [8, 0, 2, 33, 1, 0, 253], noM),
  (80, .bipush 32, 2, [0, 32], noM),
  (82, .iload_n 2, 1, [], noM),
  (83, .iadd, 1, [], noM),
  (84, .iconst 2, 1, [0, 2], noM),
  (85, .iastore, 1, [], noM),
  (86, .aload_n 1, 1, [], noM),
  (87, .getfield 70, 3, [8, 0, 2, 33, 1, 0, 253], noM),
  (90, .iload_n 3, 1, [], noM),
  (91, .iaload, 1, [], noM),
  (92, .ireturn, 1, [], noM)]
set_option maxRecDepth 100000 in
theorem kX0_buyFree : tabOK mX0_buyFree 0 tX0_buyFree = true := by decide +kernel
def tX1_enter : List Op := [(0, .aload_n 0, 1, [], noM),
  (1, .getfield 16, 3, [1, 0, 2, 3, 0, 1, 195], noM),
  (4, .invokevirtual 22, 3, [3, 0, 1, 594, 571, 572, 87, 573], mX3_enter),
  (7, .istore_n 1, 1, [], noM),
  (8, .aload_n 0, 1, [], noM),
  (9, .iconst 0, 1, [0, 0], noM),
  (10, .putfield 26, 3, [1, 1, 0, 0, 0, 0, 197], noM),
  (13, .iconst 0, 1, [0, 0], noM),
  (14, .istore_n 2, 1, [], noM),
  (15, .iload_n 2, 1, [], noM),
  (16, .bipush 99, 2, [0, 99], noM),
  (18, .if_icmp .gt 26, 3, [44], noM),
  (21, .aload_n 0, 1, [], noM),
  (22, .iload_n 2, 1, [], noM),
  (23, .iconst 0, 1, [0, 0], noM),
  (24, .iconst 0, 1, [0, 0], noM),
  (25, .invokevirtual 30, 3, [1, 3, 1, 595, 597, 5, 88, 598], mX1_sparesIf),
  (28, .ifCond .ne 16, 3, [44], noM),
  (31, .aload_n 0, 1, [], noM),
  (32, .iload_n 2, 1, [], noM),
  (33, .iconst 1, 1, [0, 1], noM),
  (34, .iadd, 1, [], noM),
  (35, .putfield 26, 3, [1, 1, 0, 0, 0, 0, 197], noM),
  (38, .iinc 2 1, 3, [0, 1], noM),
  (41, .goto (-26), 3, [15], noM),
  (44, .iload_n 1, 1, [], noM),
  (45, .ireturn, 1, [], noM)]
set_option maxRecDepth 100000 in
theorem kX1_enter : tabOK mX1_enter 0 tX1_enter = true := by decide +kernel
def tX1_spares : List Op := [(0, .iload_n 1, 1, [], noM),
  (1, .aload_n 0, 1, [], noM),
  (2, .getfield 26, 3, [1, 1, 0, 0, 0, 0, 197], noM),
  (5, .if_icmp .lt 7, 3, [12], noM),
  (8, .iconst 1, 1, [0, 1], noM),
  (9, .goto 4, 3, [13], noM),
  (12, .iconst 0, 1, [0, 0], noM),
  (13, .ireturn, 1, [], noM)]
set_option maxRecDepth 100000 in
theorem kX1_spares : tabOK mX1_spares 1 tX1_spares = true := by decide +kernel
def tX1_up : List Op := [(0, .iload_n 2, 1, [], noM),
  (1, .iload_n 3, 1, [], noM),
  (2, .iconst (-1), 1, [1, 1], noM),
  (3, .ixor, 1, [], noM),
  (4, .iand, 1, [], noM),
  (5, .istore 4, 2, [], noM),
  (7, .iconst 0, 1, [0, 0], noM),
  (8, .istore 5, 2, [], noM),
  (10, .iload 5, 2, [], noM),
  (12, .aload_n 0, 1, [], noM),
  (13, .getfield 16, 3, [1, 0, 2, 3, 0, 1, 195], noM),
  (16, .getfield 34, 3, [3, 3, 0, 0, 0, 0, 171], noM),
  (19, .if_icmp .ge 40, 3, [59], noM),
  (22, .iload 4, 2, [], noM),
  (24, .iload_n 1, 1, [], noM),
  (25, .aload_n 0, 1, [], noM),
  (26, .getfield 16, 3, [1, 0, 2, 3, 0, 1, 195], noM),
  (29, .iconst 2, 1, [0, 2], noM),
  (30, .iload 5, 2, [], noM),
  (32, .invokevirtual 37, 3, [3, 2, 1, 603, 575, 576, 87, 577], mX3_of),
  (35, .if_icmp .lt 14, 3, [49], noM),
  (38, .iconst 1, 1, [0, 1], noM),
  (39, .iload 5, 2, [], noM),
  (41, .ishl, 1, [], noM),
  (42, .iload_n 3, 1, [], noM),
  (43, .iconst (-1), 1, [1, 1], noM),
  (44, .ixor, 1, [], noM),
  (45, .iand, 1, [], noM),
  (46, .goto 4, 3, [50], noM),
  (49, .iconst 0, 1, [0, 0], noM),
  (50, .ior, 1, [], noM),
  (51, .istore 4, 2, [], noM),
  (53, .iinc 5 1, 3, [0, 1], noM),
  (56, .goto (-46), 3, [10], noM),
  (59, .iconst 0, 1, [0, 0], noM),
  (60, .istore 5, 2, [], noM),
  (62, .iload 5, 2, [], noM),
  (64, .bipush 8, 2, [0, 8], noM),
  (66, .if_icmp .ge 96, 3, [162], noM),
  (69, .iload 4, 2, [], noM),
  (71, .invokestatic 41, 3, [0, 1, 1, 604, 605, 101, 606], mJ6_bitCount_0f7a4),
  (74, .istore 6, 2, [], noM),
  (76, .iload 4, 2, [], noM),
  (78, .istore 7, 2, [], noM),
  (80, .iconst 0, 1, [0, 0], noM),
  (81, .istore 8, 2, [], noM),
  (83, .iload 8, 2, [], noM),
  (85, .aload_n 0, 1, [], noM),
  (86, .getfield 16, 3, [1, 0, 2, 3, 0, 1, 195], noM),
  (89, .getfield 34, 3, [3, 3, 0, 0, 0, 0, 171], noM),
  (92, .if_icmp .ge 50, 3, [142], noM),
  (95, .aload_n 0, 1, [], noM),
  (96, .getfield 16, 3, [1, 0, 2, 3, 0, 1, 195], noM),
  (99, .iconst 4, 1, [0, 4], noM),
  (100, .iload 8, 2, [], noM),
  (102, .invokevirtual 37, 3, [3, 2, 1, 603, 575, 576, 87, 577], mX3_of),
  (105, .istore 9, 2, [], noM),
  (107, .iload 7, 2, [], noM),
  (109, .iload 9, 2, [], noM),
  (111, .ifCond .eq 21, 3, [132], noM),
  (114, .iload 9, 2, [], noM),
  (116, .iload 6, 2, [], noM),
  (118, .if_icmp .gt 14, 3, [132], noM),
  (121, .iconst 1, 1, [0, 1], noM),
  (122, .iload 8, 2, [], noM),
  (124, .ishl, 1, [], noM),
  (125, .iload_n 3, 1, [], noM),
  (126, .iconst (-1), 1, [1, 1], noM),
  (127, .ixor, 1, [], noM),
  (128, .iand, 1, [], noM),
  (129, .goto 4, 3, [133], noM),
  (132, .iconst 0, 1, [0, 0], noM),
  (133, .ior, 1, [], noM),
  (134, .istore 7, 2, [], noM),
  (136, .iinc 8 1, 3, [0, 1], noM),
  (139, .goto (-56), 3, [83], noM),
  (142, .iload 7, 2, [], noM),
  (144, .iload 4, 2, [], noM),
  (146, .if_icmp .ne 6, 3, [152], noM),
  (149, .goto 13, 3, [162], noM),
  (152, .iload 7, 2, [], noM),
  (154, .istore 4, 2, [], noM),
  (156, .iinc 5 1, 3, [0, 1], noM),
  (159, .goto (-97), 3, [62], noM),
  (162, .iload 4, 2, [], noM),
  (164, .ireturn, 1, [], noM)]
set_option maxRecDepth 100000 in
theorem kX1_up : tabOK mX1_up 0 tX1_up = true := by decide +kernel
def tX1_sparesIf : List Op := [(0, .aload_n 0, 1, [], noM),
  (1, .iload_n 1, 1, [], noM),
  (2, .iload_n 2, 1, [], noM),
  (3, .iload_n 3, 1, [], noM),
  (4, .invokevirtual 47, 3, [1, 3, 1, 599, 600, 601, 88, 602], mX1_up),
  (7, .istore 4, 2, [], noM),
  (9, .iconst 2, 1, [0, 2], noM),
  (10, .aload_n 0, 1, [], noM),
  (11, .getfield 16, 3, [1, 0, 2, 3, 0, 1, 195], noM),
  (14, .iconst 0, 1, [0, 0], noM),
  (15, .iload 4, 2, [], noM),
  (17, .invokevirtual 51, 3, [3, 2, 1, 610, 611, 612, 87, 613], mX3_sum),
  (20, .imul, 1, [], noM),
  (21, .aload_n 0, 1, [], noM),
  (22, .getfield 16, 3, [1, 0, 2, 3, 0, 1, 195], noM),
  (25, .iconst 0, 1, [0, 0], noM),
  (26, .iload_n 3, 1, [], noM),
  (27, .iconst (-1), 1, [1, 1], noM),
  (28, .ixor, 1, [], noM),
  (29, .invokevirtual 51, 3, [3, 2, 1, 610, 611, 612, 87, 613], mX3_sum),
  (32, .if_icmp .lt 7, 3, [39], noM),
  (35, .iconst 1, 1, [0, 1], noM),
  (36, .goto 4, 3, [40], noM),
  (39, .iconst 0, 1, [0, 0], noM),
  (40, .ireturn, 1, [], noM)]
set_option maxRecDepth 100000 in
theorem kX1_sparesIf : tabOK mX1_sparesIf 1 tX1_sparesIf = true := by decide +kernel
def tX1_fewestToWin : List Op := [(0, .iconst 1, 1, [0, 1], noM),
  (1, .aload_n 0, 1, [], noM),
  (2, .getfield 16, 3, [1, 0, 2, 3, 0, 1, 195], noM),
  (5, .getfield 34, 3, [3, 3, 0, 0, 0, 0, 171], noM),
  (8, .ishl, 1, [], noM),
  (9, .iconst 1, 1, [0, 1], noM),
  (10, .isub, 1, [], noM),
  (11, .istore_n 2, 1, [], noM),
  (12, .iload_n 2, 1, [], noM),
  (13, .istore_n 3, 1, [], noM),
  (14, .iconst 0, 1, [0, 0], noM),
  (15, .istore 4, 2, [], noM),
  (17, .iload 4, 2, [], noM),
  (19, .iload_n 2, 1, [], noM),
  (20, .if_icmp .ge 35, 3, [55], noM),
  (23, .iload 4, 2, [], noM),
  (25, .invokestatic 41, 3, [0, 1, 1, 604, 605, 101, 606], mJ6_bitCount_0f7a4),
  (28, .iload_n 3, 1, [], noM),
  (29, .invokestatic 41, 3, [0, 1, 1, 604, 605, 101, 606], mJ6_bitCount_0f7a4),
  (32, .if_icmp .ge 17, 3, [49], noM),
  (35, .aload_n 0, 1, [], noM),
  (36, .iload_n 1, 1, [], noM),
  (37, .iload 4, 2, [], noM),
  (39, .iconst 0, 1, [0, 0], noM),
  (40, .invokevirtual 30, 3, [1, 3, 1, 595, 597, 5, 88, 598], mX1_sparesIf),
  (43, .ifCond .eq 6, 3, [49], noM),
  (46, .iload 4, 2, [], noM),
  (48, .istore_n 3, 1, [], noM),
  (49, .iinc 4 1, 3, [0, 1], noM),
  (52, .goto (-35), 3, [17], noM),
  (55, .iload_n 3, 1, [], noM),
  (56, .ireturn, 1, [], noM)]
set_option maxRecDepth 100000 in
theorem kX1_fewestToWin : tabOK mX1_fewestToWin 0 tX1_fewestToWin = true := by decide +kernel
def tX1_tipping : List Op := [(0, .aload_n 0, 1, [], noM),
  (1, .iload_n 1, 1, [], noM),
  (2, .invokevirtual 54, 3, [1, 1, 1, 869, 748, 749, 88, 750], mX1_spares),
  (5, .istore_n 2, 1, [], noM),
  (6, .iconst 0, 1, [0, 0], noM),
  (7, .istore_n 3, 1, [], noM),
  (8, .iconst 0, 1, [0, 0], noM),
  (9, .istore 4, 2, [], noM),
  (11, .iload 4, 2, [], noM),
  (13, .aload_n 0, 1, [], noM),
  (14, .getfield 16, 3, [1, 0, 2, 3, 0, 1, 195], noM),
  (17, .getfield 34, 3, [3, 3, 0, 0, 0, 0, 171], noM),
  (20, .if_icmp .ge 34, 3, [54], noM),
  (23, .iload_n 3, 1, [], noM),
  (24, .aload_n 0, 1, [], noM),
  (25, .iload_n 1, 1, [], noM),
  (26, .iconst 0, 1, [0, 0], noM),
  (27, .iconst 1, 1, [0, 1], noM),
  (28, .iload 4, 2, [], noM),
  (30, .ishl, 1, [], noM),
  (31, .invokevirtual 30, 3, [1, 3, 1, 595, 597, 5, 88, 598], mX1_sparesIf),
  (34, .iload_n 2, 1, [], noM),
  (35, .if_icmp .eq 10, 3, [45], noM),
  (38, .iconst 1, 1, [0, 1], noM),
  (39, .iload 4, 2, [], noM),
  (41, .ishl, 1, [], noM),
  (42, .goto 4, 3, [46], noM),
  (45, .iconst 0, 1, [0, 0], noM),
  (46, .ior, 1, [], noM),
  (47, .istore_n 3, 1, [], noM),
  (48, .iinc 4 1, 3, [0, 1], noM),
  (51, .goto (-40), 3, [11], noM),
  (54, .iload_n 3, 1, [], noM),
  (55, .ireturn, 1, [], noM)]
set_option maxRecDepth 100000 in
theorem kX1_tipping : tabOK mX1_tipping 0 tX1_tipping = true := by decide +kernel
def tX2_add : List Op := [(0, .aload_n 0, 1, [], noM),
  (1, .getfield 18, 3, [2, 2, 0, 0, 0, 0, 359], noM),
  (4, .bipush 12, 2, [0, 12], noM),
  (6, .if_icmp .ge 11, 3, [17], noM),
  (9, .iload_n 1, 1, [], noM),
  (10, .iload_n 2, 1, [], noM),
  (11, .invokestatic 22, 3, [0, 2, 1, 1060, 1061, 95, 1062], mX2_canBe),
  (14, .ifCond .ne 5, 3, [19], noM),
  (17, .iconst 0, 1, [0, 0], noM),
  (18, .ireturn, 1, [], noM),
  (19, .aload_n 0, 1, [], noM),
  (20, .getfield 11, 3, [2, 0, 2, 20, 0, 0, 357], noM),
  (23, .aload_n 0, 1, [], noM),
  (24, .getfield 18, 3, [2, 2, 0, 0, 0, 0, 359], noM),
  (27, .iload_n 1, 1, [], noM),
  (28, .iastore, 1, [], noM),
  (29, .aload_n 0, 1, [], noM),
  (30, .getfield 15, 3, [2, 1, 2, 21, 0, 0, 358], noM),
  (33, .aload_n 0, 1, [], noM),
  (34, .getfield 18, 3, [2, 2, 0, 0, 0, 0, 359], noM),
  (37, .iload_n 2, 1, [], noM),
  (38, .iastore, 1, [], noM),
  (39, .aload_n 0, 1, [], noM),
  (40, .dup, 1, [], noM),
  (41, .getfield 18, 3, [2, 2, 0, 0, 0, 0, 359], noM),
  (44, .iconst 1, 1, [0, 1], noM),
  (45, .iadd, 1, [], noM),
  (46, .putfield 18, 3, [2, 2, 0, 0, 0, 0, 359], noM),
  (49, .iconst 1, 1, [0, 1], noM),
  (50, .ireturn, 1, [], noM)]
set_option maxRecDepth 100000 in
theorem kX2_add : tabOK mX2_add 1 tX2_add = true := by decide +kernel
def tX2_canBe : List Op := [(0, .iload_n 0, 1, [], noM),
  (1, .tableswitch 113 0 4 #[35, 50, 66, 81, 98], 35, [114, 0, 36, 1, 51, 2, 67, 3, 82, 4, 99], noM),
  (36, .iload_n 1, 1, [], noM),
  (37, .ifCond .lt 12, 3, [49], noM),
  (40, .iload_n 1, 1, [], noM),
  (41, .iconst 3, 1, [0, 3], noM),
  (42, .if_icmp .gt 7, 3, [49], noM),
  (45, .iconst 1, 1, [0, 1], noM),
  (46, .goto 4, 3, [50], noM),
  (49, .iconst 0, 1, [0, 0], noM),
  (50, .ireturn, 1, [], noM),
  (51, .iload_n 1, 1, [], noM),
  (52, .ifCond .lt 13, 3, [65], noM),
  (55, .iload_n 1, 1, [], noM),
  (56, .bipush 99, 2, [0, 99], noM),
  (58, .if_icmp .gt 7, 3, [65], noM),
  (61, .iconst 1, 1, [0, 1], noM),
  (62, .goto 4, 3, [66], noM),
  (65, .iconst 0, 1, [0, 0], noM),
  (66, .ireturn, 1, [], noM),
  (67, .iload_n 1, 1, [], noM),
  (68, .ifCond .lt 12, 3, [80], noM),
  (71, .iload_n 1, 1, [], noM),
  (72, .iconst 4, 1, [0, 4], noM),
  (73, .if_icmp .ge 7, 3, [80], noM),
  (76, .iconst 1, 1, [0, 1], noM),
  (77, .goto 4, 3, [81], noM),
  (80, .iconst 0, 1, [0, 0], noM),
  (81, .ireturn, 1, [], noM),
  (82, .iload_n 1, 1, [], noM),
  (83, .iconst 1, 1, [0, 1], noM),
  (84, .if_icmp .lt 13, 3, [97], noM),
  (87, .iload_n 1, 1, [], noM),
  (88, .bipush 9, 2, [0, 9], noM),
  (90, .if_icmp .gt 7, 3, [97], noM),
  (93, .iconst 1, 1, [0, 1], noM),
  (94, .goto 4, 3, [98], noM),
  (97, .iconst 0, 1, [0, 0], noM),
  (98, .ireturn, 1, [], noM),
  (99, .iload_n 1, 1, [], noM),
  (100, .ifCond .eq 8, 3, [108], noM),
  (103, .iload_n 1, 1, [], noM),
  (104, .iconst 1, 1, [0, 1], noM),
  (105, .if_icmp .ne 7, 3, [112], noM),
  (108, .iconst 1, 1, [0, 1], noM),
  (109, .goto 4, 3, [113], noM),
  (112, .iconst 0, 1, [0, 0], noM),
  (113, .ireturn, 1, [], noM),
  (114, .iconst 0, 1, [0, 0], noM),
  (115, .ireturn, 1, [], noM)]
set_option maxRecDepth 100000 in
theorem kX2_canBe : tabOK mX2_canBe 1 tX2_canBe = true := by decide +kernel
def tX2_fitting : List Op := [(0, .iconst 0, 1, [0, 0], noM),
  (1, .istore_n 3, 1, [], noM),
  (2, .iconst 0, 1, [0, 0], noM),
  (3, .istore 4, 2, [], noM),
  (5, .iload 4, 2, [], noM),
  (7, .aload_n 1, 1, [], noM),
  (8, .getfield 26, 3, [3, 3, 0, 0, 0, 0, 170], noM),
  (11, .if_icmp .ge 31, 3, [42], noM),
  (14, .iload_n 3, 1, [], noM),
  (15, .aload_n 0, 1, [], noM),
  (16, .aload_n 1, 1, [], noM),
  (17, .aload_n 2, 1, [], noM),
  (18, .iload 4, 2, [], noM),
  (20, .invokevirtual 31, 3, [2, 3, 1, 1075, 1077, 22, 95, 1078], mX2_fitsAll),
  (23, .ifCond .eq 10, 3, [33], noM),
  (26, .iconst 1, 1, [0, 1], noM),
  (27, .iload 4, 2, [], noM),
  (29, .ishl, 1, [], noM),
  (30, .goto 4, 3, [34], noM),
  (33, .iconst 0, 1, [0, 0], noM),
  (34, .ior, 1, [], noM),
  (35, .istore_n 3, 1, [], noM),
  (36, .iinc 4 1, 3, [0, 1], noM),
  (39, .goto (-34), 3, [5], noM),
  (42, .iload_n 3, 1, [], noM),
  (43, .ireturn, 1, [], noM)]
set_option maxRecDepth 100000 in
theorem kX2_fitting : tabOK mX2_fitting 0 tX2_fitting = true := by decide +kernel
def tX2_fitsAll : List Op := [(0, .iconst 0, 1, [0, 0], noM),
  (1, .istore 4, 2, [], noM),
  (3, .iload 4, 2, [], noM),
  (5, .aload_n 0, 1, [], noM),
  (6, .getfield 18, 3, [2, 2, 0, 0, 0, 0, 359], noM),
  (9, .if_icmp .ge 23, 3, [32], noM),
  (12, .aload_n 0, 1, [], noM),
  (13, .aload_n 1, 1, [], noM),
  (14, .aload_n 2, 1, [], noM),
  (15, .iload_n 3, 1, [], noM),
  (16, .iload 4, 2, [], noM),
  (18, .invokevirtual 35, 3, [2, 4, 1, 1079, 1081, 23, 95, 1082], mX2_fitsOne),
  (21, .ifCond .ne 5, 3, [26], noM),
  (24, .iconst 0, 1, [0, 0], noM),
  (25, .ireturn, 1, [], noM),
  (26, .iinc 4 1, 3, [0, 1], noM),
  (29, .goto (-26), 3, [3], noM),
  (32, .iconst 1, 1, [0, 1], noM),
  (33, .ireturn, 1, [], noM)]
set_option maxRecDepth 100000 in
theorem kX2_fitsAll : tabOK mX2_fitsAll 1 tX2_fitsAll = true := by decide +kernel
def tX2_fitsOne : List Op := [(0, .aload_n 0, 1, [], noM),
  (1, .getfield 15, 3, [2, 1, 2, 21, 0, 0, 358], noM),
  (4, .iload 4, 2, [], noM),
  (6, .iaload, 1, [], noM),
  (7, .istore 5, 2, [], noM),
  (9, .aload_n 0, 1, [], noM),
  (10, .getfield 11, 3, [2, 0, 2, 20, 0, 0, 357], noM),
  (13, .iload 4, 2, [], noM),
  (15, .iaload, 1, [], noM),
  (16, .tableswitch 99 0 3 #[32, 49, 65, 82], 32, [115, 0, 48, 1, 65, 2, 81, 3, 98], noM),
  (48, .aload_n 1, 1, [], noM),
  (49, .iconst 0, 1, [0, 0], noM),
  (50, .iload_n 3, 1, [], noM),
  (51, .invokevirtual 39, 3, [3, 2, 1, 1083, 575, 576, 87, 577], mX3_of),
  (54, .iload 5, 2, [], noM),
  (56, .if_icmp .ne 7, 3, [63], noM),
  (59, .iconst 1, 1, [0, 1], noM),
  (60, .goto 4, 3, [64], noM),
  (63, .iconst 0, 1, [0, 0], noM),
  (64, .ireturn, 1, [], noM),
  (65, .aload_n 2, 1, [], noM),
  (66, .iload_n 3, 1, [], noM),
  (67, .invokevirtual 43, 3, [8, 1, 1, 1084, 723, 724, 91, 725], mX8_favour),
  (70, .iload 5, 2, [], noM),
  (72, .if_icmp .lt 7, 3, [79], noM),
  (75, .iconst 1, 1, [0, 1], noM),
  (76, .goto 4, 3, [80], noM),
  (79, .iconst 0, 1, [0, 0], noM),
  (80, .ireturn, 1, [], noM),
  (81, .aload_n 1, 1, [], noM),
  (82, .iconst 3, 1, [0, 3], noM),
  (83, .iload_n 3, 1, [], noM),
  (84, .invokevirtual 39, 3, [3, 2, 1, 1083, 575, 576, 87, 577], mX3_of),
  (87, .iload 5, 2, [], noM),
  (89, .if_icmp .ne 7, 3, [96], noM),
  (92, .iconst 1, 1, [0, 1], noM),
  (93, .goto 4, 3, [97], noM),
  (96, .iconst 0, 1, [0, 0], noM),
  (97, .ireturn, 1, [], noM),
  (98, .aload_n 1, 1, [], noM),
  (99, .iconst 2, 1, [0, 2], noM),
  (100, .iload_n 3, 1, [], noM),
  (101, .invokevirtual 39, 3, [3, 2, 1, 1083, 575, 576, 87, 577], mX3_of),
  (104, .iload 5, 2, [], noM),
  (106, .if_icmp .gt 7, 3, [113], noM),
  (109, .iconst 1, 1, [0, 1], noM),
  (110, .goto 4, 3, [114], noM),
  (113, .iconst 0, 1, [0, 0], noM),
  (114, .ireturn, 1, [], noM),
  (115, .aload_n 2, 1, [], noM),
  (116, .iload_n 3, 1, [], noM),
  (117, .invokevirtual 49, 3, [8, 1, 1, 1085, 756, 757, 91, 758], mX8_isDead),
  (120, .iload 5, 2, [], noM),
  (122, .iconst 1, 1, [0, 1], noM),
  (123, .if_icmp .ne 7, 3, [130], noM),
  (126, .iconst 1, 1, [0, 1], noM),
  (127, .goto 4, 3, [131], noM),
  (130, .iconst 0, 1, [0, 0], noM),
  (131, .if_icmp .ne 7, 3, [138], noM),
  (134, .iconst 1, 1, [0, 1], noM),
  (135, .goto 4, 3, [139], noM),
  (138, .iconst 0, 1, [0, 0], noM),
  (139, .ireturn, 1, [], noM)]
set_option maxRecDepth 100000 in
theorem kX2_fitsOne : tabOK mX2_fitsOne 1 tX2_fitsOne = true := by decide +kernel
def tX2_countHiredFor : List Op := [(0, .iconst 0, 1, [0, 0], noM),
  (1, .istore 4, 2, [], noM),
  (3, .iconst 0, 1, [0, 0], noM),
  (4, .istore 5, 2, [], noM),
  (6, .iload 5, 2, [], noM),
  (8, .aload_n 2, 1, [], noM),
  (9, .getfield 26, 3, [3, 3, 0, 0, 0, 0, 170], noM),
  (12, .if_icmp .ge 35, 3, [47], noM),
  (15, .iload 4, 2, [], noM),
  (17, .aload_n 2, 1, [], noM),
  (18, .iconst 2, 1, [0, 2], noM),
  (19, .iload 5, 2, [], noM),
  (21, .invokevirtual 39, 3, [3, 2, 1, 1083, 575, 576, 87, 577], mX3_of),
  (24, .iload_n 1, 1, [], noM),
  (25, .if_icmp .gt 12, 3, [37], noM),
  (28, .iload_n 3, 1, [], noM),
  (29, .iload 5, 2, [], noM),
  (31, .ishr, 1, [], noM),
  (32, .iconst 1, 1, [0, 1], noM),
  (33, .iand, 1, [], noM),
  (34, .goto 4, 3, [38], noM),
  (37, .iconst 0, 1, [0, 0], noM),
  (38, .iadd, 1, [], noM),
  (39, .istore 4, 2, [], noM),
  (41, .iinc 5 1, 3, [0, 1], noM),
  (44, .goto (-38), 3, [6], noM),
  (47, .iload 4, 2, [], noM),
  (49, .ireturn, 1, [], noM)]
set_option maxRecDepth 100000 in
theorem kX2_countHiredFor : tabOK mX2_countHiredFor 0 tX2_countHiredFor = true := by decide +kernel
def tX3_has : List Op := [(0, .iload_n 1, 1, [], noM),
  (1, .ifCond .lt 15, 3, [16], noM),
  (4, .iload_n 1, 1, [], noM),
  (5, .aload_n 0, 1, [], noM),
  (6, .getfield 24, 3, [3, 3, 0, 0, 0, 0, 168], noM),
  (9, .if_icmp .ge 7, 3, [16], noM),
  (12, .iconst 1, 1, [0, 1], noM),
  (13, .goto 4, 3, [17], noM),
  (16, .iconst 0, 1, [0, 0], noM),
  (17, .ireturn, 1, [], noM)]
set_option maxRecDepth 100000 in
theorem kX3_has : tabOK mX3_has 1 tX3_has = true := by decide +kernel
def tX3_of : List Op := [(0, .aload_n 0, 1, [], noM),
  (1, .getfield 13, 3, [3, 2, 2, 22, 1, 0, 167], noM),
  (4, .iload_n 1, 1, [], noM),
  (5, .aaload, 1, [], noM),
  (6, .iload_n 2, 1, [], noM),
  (7, .iaload, 1, [], noM),
  (8, .ireturn, 1, [], noM)]
set_option maxRecDepth 100000 in
theorem kX3_of : tabOK mX3_of 0 tX3_of = true := by decide +kernel
def tX3_sum : List Op := [(0, .iconst 0, 1, [0, 0], noM),
  (1, .istore_n 3, 1, [], noM),
  (2, .iconst 0, 1, [0, 0], noM),
  (3, .istore 4, 2, [], noM),
  (5, .iload 4, 2, [], noM),
  (7, .aload_n 0, 1, [], noM),
  (8, .getfield 24, 3, [3, 3, 0, 0, 0, 0, 168], noM),
  (11, .if_icmp .ge 28, 3, [39], noM),
  (14, .iload_n 3, 1, [], noM),
  (15, .iload_n 2, 1, [], noM),
  (16, .iload 4, 2, [], noM),
  (18, .ishr, 1, [], noM),
  (19, .iconst 1, 1, [0, 1], noM),
  (20, .iand, 1, [], noM),
  (21, .aload_n 0, 1, [], noM),
  (22, .getfield 13, 3, [3, 2, 2, 22, 1, 0, 167], noM),
  (25, .iload_n 1, 1, [], noM),
  (26, .aaload, 1, [], noM),
  (27, .iload 4, 2, [], noM),
  (29, .iaload, 1, [], noM),
  (30, .imul, 1, [], noM),
  (31, .iadd, 1, [], noM),
  (32, .istore_n 3, 1, [], noM),
  (33, .iinc 4 1, 3, [0, 1], noM),
  (36, .goto (-31), 3, [5], noM),
  (39, .iload_n 3, 1, [], noM),
  (40, .ireturn, 1, [], noM)]
set_option maxRecDepth 100000 in
theorem kX3_sum : tabOK mX3_sum 0 tX3_sum = true := by decide +kernel
def tX3_read : List Op := [(0, .aload_n 1, 1, [], noM),
  (1, .aload_n 0, 1, [], noM),
  (2, .getfield 20, 3, [3, 1, 0, 0, 0, 0, 166], noM),
  (5, .invokevirtual 27, 3, [9, 1, 0, 546, 430, 431, 85, 432], mX9_start),
  (8, .aload_n 0, 1, [], noM),
  (9, .iconst 0, 1, [0, 0], noM),
  (10, .putfield 33, 3, [3, 4, 0, 0, 0, 0, 173], noM),
  (13, .aload_n 0, 1, [], noM),
  (14, .getfield 24, 3, [3, 3, 0, 0, 0, 0, 168], noM),
  (17, .aload_n 0, 1, [], noM),
  (18, .getfield 33, 3, [3, 4, 0, 0, 0, 0, 173], noM),
  (21, .iadd, 1, [], noM),
  (22, .bipush 8, 2, [0, 8], noM),
  (24, .if_icmp .ge 71, 3, [95], noM),
  (27, .aload_n 0, 1, [], noM),
  (28, .aload_n 1, 1, [], noM),
  (29, .aload_n 0, 1, [], noM),
  (30, .getfield 24, 3, [3, 3, 0, 0, 0, 0, 168], noM),
  (33, .aload_n 0, 1, [], noM),
  (34, .getfield 33, 3, [3, 4, 0, 0, 0, 0, 173], noM),
  (37, .iadd, 1, [], noM),
  (38, .invokevirtual 36, 3, [3, 2, 1, 547, 549, 4, 87, 550], mX3_readLine),
  (41, .ifCond .ne 8, 3, [49], noM),
  (44, .aload_n 1, 1, [], noM),
  (45, .getfield 40, 3, [9, 2, 0, 0, 0, 0, 126], noM),
  (48, .ireturn, 1, [], noM),
  (49, .aload_n 1, 1, [], noM),
  (50, .invokevirtual 43, 3, [9, 0, 1, 569, 477, 478, 85, 479], mX9_ended),
  (53, .ifCond .eq 15, 3, [68], noM),
  (56, .aload_n 0, 1, [], noM),
  (57, .dup, 1, [], noM),
  (58, .getfield 33, 3, [3, 4, 0, 0, 0, 0, 173], noM),
  (61, .iconst 1, 1, [0, 1], noM),
  (62, .iadd, 1, [], noM),
  (63, .putfield 33, 3, [3, 4, 0, 0, 0, 0, 173], noM),
  (66, .iconst (-1), 1, [1, 1], noM),
  (67, .ireturn, 1, [], noM),
  (68, .aload_n 1, 1, [], noM),
  (69, .bipush 59, 2, [0, 59], noM),
  (71, .invokevirtual 47, 3, [9, 1, 1, 568, 442, 443, 85, 444], mX9_take),
  (74, .ifCond .ne 8, 3, [82], noM),
  (77, .aload_n 1, 1, [], noM),
  (78, .getfield 40, 3, [9, 2, 0, 0, 0, 0, 126], noM),
  (81, .ireturn, 1, [], noM),
  (82, .aload_n 0, 1, [], noM),
  (83, .dup, 1, [], noM),
  (84, .getfield 33, 3, [3, 4, 0, 0, 0, 0, 173], noM),
  (87, .iconst 1, 1, [0, 1], noM),
  (88, .iadd, 1, [], noM),
  (89, .putfield 33, 3, [3, 4, 0, 0, 0, 0, 173], noM),
  (92, .goto (-79), 3, [13], noM),
  (95, .aload_n 1, 1, [], noM),
  (96, .getfield 40, 3, [9, 2, 0, 0, 0, 0, 126], noM),
  (99, .ireturn, 1, [], noM)]
set_option maxRecDepth 100000 in
theorem kX3_read : tabOK mX3_read 0 tX3_read = true := by decide +kernel
def tX3_enter : List Op := [(0, .aload_n 0, 1, [], noM),
  (1, .dup, 1, [], noM),
  (2, .getfield 24, 3, [3, 3, 0, 0, 0, 0, 168], noM),
  (5, .aload_n 0, 1, [], noM),
  (6, .getfield 33, 3, [3, 4, 0, 0, 0, 0, 173], noM),
  (9, .iadd, 1, [], noM),
  (10, .putfield 24, 3, [3, 3, 0, 0, 0, 0, 168], noM),
  (13, .aload_n 0, 1, [], noM),
  (14, .getfield 33, 3, [3, 4, 0, 0, 0, 0, 173], noM),
  (17, .ireturn, 1, [], noM)]
set_option maxRecDepth 100000 in
theorem kX3_enter : tabOK mX3_enter 0 tX3_enter = true := by decide +kernel
def tX3_readLine : List Op := [(0, .iconst 0, 1, [0, 0], noM),
  (1, .istore_n 3, 1, [], noM),
  (2, .iload_n 3, 1, [], noM),
  (3, .iconst 5, 1, [0, 5], noM),
  (4, .if_icmp .ge 52, 3, [56], noM),
  (7, .iload_n 3, 1, [], noM),
  (8, .aload_n 0, 1, [], noM),
  (9, .getfield 16, 3, [3, 0, 2, 90, 1, 0, 165], noM),
  (12, .invokevirtual 51, 3, [90, 0, 1, 551, 382, 383, 96, 384], mJ0_length_8abf5),
  (15, .if_icmp .ge 41, 3, [56], noM),
  (18, .aload_n 1, 1, [], noM),
  (19, .aload_n 0, 1, [], noM),
  (20, .getfield 16, 3, [3, 0, 2, 90, 1, 0, 165], noM),
  (23, .iload_n 3, 1, [], noM),
  (24, .invokevirtual 57, 3, [90, 1, 1, 552, 392, 393, 96, 394], mJ0_charAt_5068e),
  (27, .invokestatic 61, 3, [0, 2, 1, 553, 554, 87, 555], mX3_readPart),
  (30, .istore 4, 2, [], noM),
  (32, .iload 4, 2, [], noM),
  (34, .iconst (-1), 1, [1, 1], noM),
  (35, .if_icmp .ne 5, 3, [40], noM),
  (38, .iconst 0, 1, [0, 0], noM),
  (39, .ireturn, 1, [], noM),
  (40, .aload_n 0, 1, [], noM),
  (41, .getfield 13, 3, [3, 2, 2, 22, 1, 0, 167], noM),
  (44, .iload_n 3, 1, [], noM),
  (45, .aaload, 1, [], noM),
  (46, .iload_n 2, 1, [], noM),
  (47, .iload 4, 2, [], noM),
  (49, .iastore, 1, [], noM),
  (50, .iinc 3 1, 3, [0, 1], noM),
  (53, .goto (-51), 3, [2], noM),
  (56, .iconst 1, 1, [0, 1], noM),
  (57, .ireturn, 1, [], noM)]
set_option maxRecDepth 100000 in
theorem kX3_readLine : tabOK mX3_readLine 1 tX3_readLine = true := by decide +kernel
def tX3_readPart : List Op := [(0, .iload_n 1, 1, [], noM),
  (1, .lookupswitch 98 #[(43, 64), (97, 59), (100, 79), (110, 87), (111, 72), (112, 93)], 59, [99, 43, 65, 97, 60, 100, 80, 110, 88, 111, 73, 112, 94], noM),
  (60, .aload_n 0, 1, [], noM),
  (61, .invokestatic 65, 3, [0, 1, 1, 556, 557, 87, 558], mX3_readArms),
  (64, .ireturn, 1, [], noM),
  (65, .aload_n 0, 1, [], noM),
  (66, .iconst 1, 1, [0, 1], noM),
  (67, .bipush 9, 2, [0, 9], noM),
  (69, .invokevirtual 69, 3, [9, 2, 1, 563, 459, 460, 85, 461], mX9_takeDigit),
  (72, .ireturn, 1, [], noM),
  (73, .aload_n 0, 1, [], noM),
  (74, .iconst 0, 1, [0, 0], noM),
  (75, .iconst 3, 1, [0, 3], noM),
  (76, .invokevirtual 69, 3, [9, 2, 1, 563, 459, 460, 85, 461], mX9_takeDigit),
  (79, .ireturn, 1, [], noM),
  (80, .aload_n 0, 1, [], noM),
  (81, .iconst 0, 1, [0, 0], noM),
  (82, .bipush 9, 2, [0, 9], noM),
  (84, .invokevirtual 69, 3, [9, 2, 1, 563, 459, 460, 85, 461], mX9_takeDigit),
  (87, .ireturn, 1, [], noM),
  (88, .aload_n 0, 1, [], noM),
  (89, .iconst 2, 1, [0, 2], noM),
  (90, .invokevirtual 73, 3, [9, 1, 1, 564, 455, 456, 85, 457], mX9_takeNumber),
  (93, .ireturn, 1, [], noM),
  (94, .aload_n 0, 1, [], noM),
  (95, .invokestatic 77, 3, [0, 1, 1, 565, 566, 87, 567], mX3_readAboveNothing),
  (98, .ireturn, 1, [], noM),
  (99, .aload_n 0, 1, [], noM),
  (100, .iload_n 1, 1, [], noM),
  (101, .invokevirtual 47, 3, [9, 1, 1, 568, 442, 443, 85, 444], mX9_take),
  (104, .ifCond .eq 7, 3, [111], noM),
  (107, .iconst 0, 1, [0, 0], noM),
  (108, .goto 4, 3, [112], noM),
  (111, .iconst (-1), 1, [1, 1], noM),
  (112, .ireturn, 1, [], noM)]
set_option maxRecDepth 100000 in
theorem kX3_readPart : tabOK mX3_readPart 0 tX3_readPart = true := by decide +kernel
def tX3_readArms : List Op := [(0, .aload_n 0, 1, [], noM),
  (1, .invokevirtual 80, 3, [9, 0, 1, 559, 446, 447, 85, 448], mX9_peek),
  (4, .invokestatic 83, 3, [0, 1, 1, 560, 561, 87, 562], mX3_armsOf),
  (7, .istore_n 1, 1, [], noM),
  (8, .iload_n 1, 1, [], noM),
  (9, .iconst (-1), 1, [1, 1], noM),
  (10, .if_icmp .eq 13, 3, [23], noM),
  (13, .aload_n 0, 1, [], noM),
  (14, .dup, 1, [], noM),
  (15, .getfield 40, 3, [9, 2, 0, 0, 0, 0, 126], noM),
  (18, .iconst 1, 1, [0, 1], noM),
  (19, .iadd, 1, [], noM),
  (20, .putfield 40, 3, [9, 2, 0, 0, 0, 0, 126], noM),
  (23, .iload_n 1, 1, [], noM),
  (24, .ireturn, 1, [], noM)]
set_option maxRecDepth 100000 in
theorem kX3_readArms : tabOK mX3_readArms 0 tX3_readArms = true := by decide +kernel
def tX3_armsOf : List Op := [(0, .iload_n 0, 1, [], noM),
  (1, .tableswitch 55 108 115 #[53, 55, 47, 55, 51, 55, 55, 49], 47, [56, 108, 54, 109, 56, 110, 48, 111, 56, 112, 52, 113, 56, 114, 56, 115, 50], noM),
  (48, .iconst 0, 1, [0, 0], noM),
  (49, .ireturn, 1, [], noM),
  (50, .iconst 1, 1, [0, 1], noM),
  (51, .ireturn, 1, [], noM),
  (52, .iconst 2, 1, [0, 2], noM),
  (53, .ireturn, 1, [], noM),
  (54, .iconst 3, 1, [0, 3], noM),
  (55, .ireturn, 1, [], noM),
  (56, .iconst (-1), 1, [1, 1], noM),
  (57, .ireturn, 1, [], noM)]
set_option maxRecDepth 100000 in
theorem kX3_armsOf : tabOK mX3_armsOf 0 tX3_armsOf = true := by decide +kernel
def tX3_readAboveNothing : List Op := [(0, .aload_n 0, 1, [], noM),
  (1, .iconst 2, 1, [0, 2], noM),
  (2, .invokevirtual 73, 3, [9, 1, 1, 564, 455, 456, 85, 457], mX9_takeNumber),
  (5, .istore_n 1, 1, [], noM),
  (6, .iload_n 1, 1, [], noM),
  (7, .ifCond .eq 5, 3, [12], noM),
  (10, .iload_n 1, 1, [], noM),
  (11, .ireturn, 1, [], noM),
  (12, .aload_n 0, 1, [], noM),
  (13, .dup, 1, [], noM),
  (14, .getfield 40, 3, [9, 2, 0, 0, 0, 0, 126], noM),
  (17, .iconst 1, 1, [0, 1], noM),
  (18, .isub, 1, [], noM),
  (19, .putfield 40, 3, [9, 2, 0, 0, 0, 0, 126], noM),
  (22, .iconst (-1), 1, [1, 1], noM),
  (23, .ireturn, 1, [], noM)]
set_option maxRecDepth 100000 in
theorem kX3_readAboveNothing : tabOK mX3_readAboveNothing 0 tX3_readAboveNothing = true := by decide +kernel
def tX4_clear : List Op := [(0, .aload_n 0, 1, [], noM),
  (1, .iconst 0, 1, [0, 0], noM),
  (2, .putfield 19, 3, [4, 3, 0, 0, 0, 0, 270], noM),
  (5, .aload_n 0, 1, [], noM),
  (6, .iconst 0, 1, [0, 0], noM),
  (7, .putfield 23, 3, [4, 4, 0, 0, 0, 0, 272], noM),
  (10, .return_, 1, [], noM)]
set_option maxRecDepth 100000 in
theorem kX4_clear : tabOK mX4_clear 3 tX4_clear = true := by decide +kernel
def tX4_push : List Op := [(0, .aload_n 0, 1, [], noM),
  (1, .getfield 19, 3, [4, 3, 0, 0, 0, 0, 270], noM),
  (4, .bipush 12, 2, [0, 12], noM),
  (6, .if_icmp .ne 26, 3, [32], noM),
  (9, .aload_n 0, 1, [], noM),
  (10, .aload_n 0, 1, [], noM),
  (11, .getfield 26, 3, [4, 2, 0, 0, 0, 0, 269], noM),
  (14, .iconst 1, 1, [0, 1], noM),
  (15, .iadd, 1, [], noM),
  (16, .bipush 12, 2, [0, 12], noM),
  (18, .irem, 1, [], noM),
  (19, .putfield 26, 3, [4, 2, 0, 0, 0, 0, 269], noM),
  (22, .aload_n 0, 1, [], noM),
  (23, .dup, 1, [], noM),
  (24, .getfield 19, 3, [4, 3, 0, 0, 0, 0, 270], noM),
  (27, .iconst 1, 1, [0, 1], noM),
  (28, .isub, 1, [], noM),
  (29, .putfield 19, 3, [4, 3, 0, 0, 0, 0, 270], noM),
  (32, .aload_n 0, 1, [], noM),
  (33, .getfield 11, 3, [4, 0, 2, 23, 0, 0, 267], noM),
  (36, .aload_n 0, 1, [], noM),
  (37, .getfield 26, 3, [4, 2, 0, 0, 0, 0, 269], noM),
  (40, .aload_n 0, 1, [], noM),
  (41, .getfield 19, 3, [4, 3, 0, 0, 0, 0, 270], noM),
  (44, .iadd, 1, [], noM),
  (45, .bipush 12, 2, [0, 12], noM),
  (47, .irem, 1, [], noM),
  (48, .aaload, 1, [], noM),
  (49, .aload_n 1, 1, [], noM),
  (50, .invokevirtual 29, 3, [8, 1, 0, 764, 655, 656, 91, 657], mX8_take),
  (53, .aload_n 0, 1, [], noM),
  (54, .dup, 1, [], noM),
  (55, .getfield 19, 3, [4, 3, 0, 0, 0, 0, 270], noM),
  (58, .iconst 1, 1, [0, 1], noM),
  (59, .iadd, 1, [], noM),
  (60, .putfield 19, 3, [4, 3, 0, 0, 0, 0, 270], noM),
  (63, .return_, 1, [], noM)]
set_option maxRecDepth 100000 in
theorem kX4_push : tabOK mX4_push 3 tX4_push = true := by decide +kernel
def tX4_pop : List Op := [(0, .aload_n 0, 1, [], noM),
  (1, .getfield 19, 3, [4, 3, 0, 0, 0, 0, 270], noM),
  (4, .ifCond .le 34, 3, [38], noM),
  (7, .aload_n 0, 1, [], noM),
  (8, .dup, 1, [], noM),
  (9, .getfield 19, 3, [4, 3, 0, 0, 0, 0, 270], noM),
  (12, .iconst 1, 1, [0, 1], noM),
  (13, .isub, 1, [], noM),
  (14, .putfield 19, 3, [4, 3, 0, 0, 0, 0, 270], noM),
  (17, .aload_n 1, 1, [], noM),
  (18, .aload_n 0, 1, [], noM),
  (19, .getfield 11, 3, [4, 0, 2, 23, 0, 0, 267], noM),
  (22, .aload_n 0, 1, [], noM),
  (23, .getfield 26, 3, [4, 2, 0, 0, 0, 0, 269], noM),
  (26, .aload_n 0, 1, [], noM),
  (27, .getfield 19, 3, [4, 3, 0, 0, 0, 0, 270], noM),
  (30, .iadd, 1, [], noM),
  (31, .bipush 12, 2, [0, 12], noM),
  (33, .irem, 1, [], noM),
  (34, .aaload, 1, [], noM),
  (35, .invokevirtual 29, 3, [8, 1, 0, 764, 655, 656, 91, 657], mX8_take),
  (38, .return_, 1, [], noM)]
set_option maxRecDepth 100000 in
theorem kX4_pop : tabOK mX4_pop 3 tX4_pop = true := by decide +kernel
def tX4_shelve : List Op := [(0, .iload_n 1, 1, [], noM),
  (1, .ifCond .lt 8, 3, [9], noM),
  (4, .iload_n 1, 1, [], noM),
  (5, .iconst 2, 1, [0, 2], noM),
  (6, .if_icmp .lt 5, 3, [11], noM),
  (9, .iconst 0, 1, [0, 0], noM),
  (10, .ireturn, 1, [], noM),
  (11, .aload_n 0, 1, [], noM),
  (12, .getfield 15, 3, [4, 1, 2, 24, 0, 0, 268], noM),
  (15, .iload_n 1, 1, [], noM),
  (16, .aaload, 1, [], noM),
  (17, .aload_n 2, 1, [], noM),
  (18, .invokevirtual 29, 3, [8, 1, 0, 764, 655, 656, 91, 657], mX8_take),
  (21, .aload_n 0, 1, [], noM),
  (22, .dup, 1, [], noM),
  (23, .getfield 23, 3, [4, 4, 0, 0, 0, 0, 272], noM),
  (26, .iconst 1, 1, [0, 1], noM),
  (27, .iload_n 1, 1, [], noM),
  (28, .ishl, 1, [], noM),
  (29, .ior, 1, [], noM),
  (30, .putfield 23, 3, [4, 4, 0, 0, 0, 0, 272], noM),
  (33, .iconst 1, 1, [0, 1], noM),
  (34, .ireturn, 1, [], noM)]
set_option maxRecDepth 100000 in
theorem kX4_shelve : tabOK mX4_shelve 1 tX4_shelve = true := by decide +kernel
def tX4_fetch : List Op := [(0, .iload_n 1, 1, [], noM),
  (1, .ifCond .lt 19, 3, [20], noM),
  (4, .iload_n 1, 1, [], noM),
  (5, .iconst 2, 1, [0, 2], noM),
  (6, .if_icmp .ge 14, 3, [20], noM),
  (9, .aload_n 0, 1, [], noM),
  (10, .getfield 23, 3, [4, 4, 0, 0, 0, 0, 272], noM),
  (13, .iload_n 1, 1, [], noM),
  (14, .ishr, 1, [], noM),
  (15, .iconst 1, 1, [0, 1], noM),
  (16, .iand, 1, [], noM),
  (17, .ifCond .ne 5, 3, [22], noM),
  (20, .iconst 0, 1, [0, 0], noM),
  (21, .ireturn, 1, [], noM),
  (22, .aload_n 2, 1, [], noM),
  (23, .aload_n 0, 1, [], noM),
  (24, .getfield 15, 3, [4, 1, 2, 24, 0, 0, 268], noM),
  (27, .iload_n 1, 1, [], noM),
  (28, .aaload, 1, [], noM),
  (29, .invokevirtual 29, 3, [8, 1, 0, 764, 655, 656, 91, 657], mX8_take),
  (32, .aload_n 0, 1, [], noM),
  (33, .iconst 0, 1, [0, 0], noM),
  (34, .putfield 19, 3, [4, 3, 0, 0, 0, 0, 270], noM),
  (37, .iconst 1, 1, [0, 1], noM),
  (38, .ireturn, 1, [], noM)]
set_option maxRecDepth 100000 in
theorem kX4_fetch : tabOK mX4_fetch 1 tX4_fetch = true := by decide +kernel
def tX5_clear : List Op := [(0, .aload_n 0, 1, [], noM),
  (1, .iconst 0, 1, [0, 0], noM),
  (2, .putfield 15, 3, [5, 1, 0, 0, 0, 0, 148], noM),
  (5, .return_, 1, [], noM)]
set_option maxRecDepth 100000 in
theorem kX5_clear : tabOK mX5_clear 3 tX5_clear = true := by decide +kernel
def tX5_add : List Op := [(0, .aload_n 0, 1, [], noM),
  (1, .getfield 15, 3, [5, 1, 0, 0, 0, 0, 148], noM),
  (4, .aload_n 0, 1, [], noM),
  (5, .getfield 9, 3, [5, 0, 2, 25, 0, 0, 146], noM),
  (8, .arraylength, 1, [], noM),
  (9, .if_icmp .ge 23, 3, [32], noM),
  (12, .aload_n 0, 1, [], noM),
  (13, .getfield 9, 3, [5, 0, 2, 25, 0, 0, 146], noM),
  (16, .aload_n 0, 1, [], noM),
  (17, .getfield 15, 3, [5, 1, 0, 0, 0, 0, 148], noM),
  (20, .lload_n 1, 1, [], noM),
  (21, .lastore, 1, [], noM),
  (22, .aload_n 0, 1, [], noM),
  (23, .dup, 1, [], noM),
  (24, .getfield 15, 3, [5, 1, 0, 0, 0, 0, 148], noM),
  (27, .iconst 1, 1, [0, 1], noM),
  (28, .iadd, 1, [], noM),
  (29, .putfield 15, 3, [5, 1, 0, 0, 0, 0, 148], noM),
  (32, .return_, 1, [], noM)]
set_option maxRecDepth 100000 in
theorem kX5_add : tabOK mX5_add 3 tX5_add = true := by decide +kernel
def tX5_addFraction : List Op := [(0, .lload_n 1, 1, [], noM),
  (1, .lload_n 3, 1, [], noM),
  (2, .invokestatic 19, 3, [0, 2, 1, 1014, 1015, 86, 1016], mX5_commonDivisor),
  (5, .lstore 5, 2, [], noM),
  (7, .aload_n 0, 1, [], noM),
  (8, .lload_n 1, 1, [], noM),
  (9, .lload 5, 2, [], noM),
  (11, .ldiv, 1, [], noM),
  (12, .invokevirtual 23, 3, [5, 1, 0, 1020, 771, 772, 86, 773], mX5_add),
  (15, .aload_n 0, 1, [], noM),
  (16, .lload_n 3, 1, [], noM),
  (17, .lload 5, 2, [], noM),
  (19, .ldiv, 1, [], noM),
  (20, .invokevirtual 23, 3, [5, 1, 0, 1020, 771, 772, 86, 773], mX5_add),
  (23, .return_, 1, [], noM)]
set_option maxRecDepth 100000 in
theorem kX5_addFraction : tabOK mX5_addFraction 3 tX5_addFraction = true := by decide +kernel
def tX5_commonDivisor : List Op := [(0, .lload_n 0, 1, [], noM),
  (1, .lstore 4, 2, [], noM),
  (3, .lload_n 2, 1, [], noM),
  (4, .lstore 6, 2, [], noM),
  (6, .iconst 0, 1, [0, 0], noM),
  (7, .istore 8, 2, [], noM),
  (9, .iload 8, 2, [], noM),
  (11, .bipush 100, 2, [0, 100], noM),
  (13, .if_icmp .ge 31, 3, [44], noM),
  (16, .lload 6, 2, [], noM),
  (18, .lconst 0, 1, [0], noM),
  (19, .lcmp, 1, [], noM),
  (20, .ifCond .eq 24, 3, [44], noM),
  (23, .lload 4, 2, [], noM),
  (25, .lload 6, 2, [], noM),
  (27, .lrem, 1, [], noM),
  (28, .lstore 9, 2, [], noM),
  (30, .lload 6, 2, [], noM),
  (32, .lstore 4, 2, [], noM),
  (34, .lload 9, 2, [], noM),
  (36, .lstore 6, 2, [], noM),
  (38, .iinc 8 1, 3, [0, 1], noM),
  (41, .goto (-32), 3, [9], noM),
  (44, .lconst 1, 1, [1], noM),
  (45, .lload 4, 2, [], noM),
  (47, .invokestatic 27, 3, [3, 1017, 1018, 106, 1019], noM),
  (50, .lreturn, 1, [], noM)]
set_option maxRecDepth 100000 in
theorem kX5_commonDivisor : tabOK mX5_commonDivisor 2 tX5_commonDivisor = true := by decide +kernel
def tX6_read : List Op := [(0, .aload_n 1, 1, [], noM),
  (1, .invokevirtual 18, 3, [9, 0, 1, 372, 373, 374, 85, 375], mX9_isEmpty),
  (4, .ifCond .eq 9, 3, [13], noM),
  (7, .aload_n 1, 1, [], noM),
  (8, .ldc 24, 2, [90, 2], noM),
  (10, .invokevirtual 26, 3, [9, 1, 0, 377, 378, 379, 85, 380], mX9_put),
  (13, .aload_n 1, 1, [], noM),
  (14, .bipush 40, 2, [0, 40], noM),
  (16, .invokevirtual 30, 3, [9, 1, 0, 429, 430, 431, 85, 432], mX9_start),
  (19, .aload_n 0, 1, [], noM),
  (20, .iconst 0, 1, [0, 0], noM),
  (21, .putfield 34, 3, [6, 2, 0, 0, 0, 0, 218], noM),
  (24, .aload_n 0, 1, [], noM),
  (25, .aload_n 1, 1, [], noM),
  (26, .iconst 0, 1, [0, 0], noM),
  (27, .iconst 0, 1, [0, 0], noM),
  (28, .invokevirtual 38, 3, [6, 3, 1, 433, 435, 0, 90, 436], mX6_readLevel),
  (31, .ifCond .eq 14, 3, [45], noM),
  (34, .aload_n 1, 1, [], noM),
  (35, .invokevirtual 42, 3, [9, 0, 1, 476, 477, 478, 85, 479], mX9_ended),
  (38, .ifCond .eq 7, 3, [45], noM),
  (41, .iconst (-1), 1, [1, 1], noM),
  (42, .goto 7, 3, [49], noM),
  (45, .aload_n 1, 1, [], noM),
  (46, .getfield 45, 3, [9, 2, 0, 0, 0, 0, 125], noM),
  (49, .ireturn, 1, [], noM)]
set_option maxRecDepth 100000 in
theorem kX6_read : tabOK mX6_read 0 tX6_read = true := by decide +kernel
def tX6_step : List Op := [(0, .aload_n 0, 1, [], noM),
  (1, .getfield 34, 3, [6, 2, 0, 0, 0, 0, 218], noM),
  (4, .bipush 40, 2, [0, 40], noM),
  (6, .if_icmp .ge 23, 3, [29], noM),
  (9, .aload_n 0, 1, [], noM),
  (10, .getfield 11, 3, [6, 0, 2, 26, 1, 0, 216], noM),
  (13, .aload_n 0, 1, [], noM),
  (14, .getfield 34, 3, [6, 2, 0, 0, 0, 0, 218], noM),
  (17, .iload_n 1, 1, [], noM),
  (18, .iastore, 1, [], noM),
  (19, .aload_n 0, 1, [], noM),
  (20, .dup, 1, [], noM),
  (21, .getfield 34, 3, [6, 2, 0, 0, 0, 0, 218], noM),
  (24, .iconst 1, 1, [0, 1], noM),
  (25, .iadd, 1, [], noM),
  (26, .putfield 34, 3, [6, 2, 0, 0, 0, 0, 218], noM),
  (29, .return_, 1, [], noM)]
set_option maxRecDepth 100000 in
theorem kX6_step : tabOK mX6_step 3 tX6_step = true := by decide +kernel
def tX6_readLevel : List Op := [(0, .iload_n 3, 1, [], noM),
  (1, .iconst 2, 1, [0, 2], noM),
  (2, .if_icmp .le 10, 3, [12], noM),
  (5, .aload_n 0, 1, [], noM),
  (6, .aload_n 1, 1, [], noM),
  (7, .iload_n 2, 1, [], noM),
  (8, .invokevirtual 48, 3, [6, 2, 1, 437, 439, 1, 90, 440], mX6_readSigned),
  (11, .ireturn, 1, [], noM),
  (12, .aload_n 0, 1, [], noM),
  (13, .aload_n 1, 1, [], noM),
  (14, .iload_n 2, 1, [], noM),
  (15, .iload_n 3, 1, [], noM),
  (16, .iconst 1, 1, [0, 1], noM),
  (17, .iadd, 1, [], noM),
  (18, .invokevirtual 38, 3, [6, 3, 1, 433, 435, 0, 90, 436], mX6_readLevel),
  (21, .ifCond .ne 5, 3, [26], noM),
  (24, .iconst 0, 1, [0, 0], noM),
  (25, .ireturn, 1, [], noM),
  (26, .iload_n 3, 1, [], noM),
  (27, .ifCond .ne 7, 3, [34], noM),
  (30, .iconst 1, 1, [0, 1], noM),
  (31, .goto 5, 3, [36], noM),
  (34, .bipush 40, 2, [0, 40], noM),
  (36, .istore 4, 2, [], noM),
  (38, .iconst 0, 1, [0, 0], noM),
  (39, .istore 5, 2, [], noM),
  (41, .iload 5, 2, [], noM),
  (43, .iload 4, 2, [], noM),
  (45, .if_icmp .ge 58, 3, [103], noM),
  (48, .aload_n 1, 1, [], noM),
  (49, .invokevirtual 52, 3, [9, 0, 1, 453, 446, 447, 85, 448], mX9_peek),
  (52, .istore 6, 2, [], noM),
  (54, .iload 6, 2, [], noM),
  (56, .invokestatic 56, 3, [0, 1, 1, 473, 474, 90, 475], mX6_levelOf),
  (59, .iload_n 3, 1, [], noM),
  (60, .if_icmp .eq 6, 3, [66], noM),
  (63, .goto 40, 3, [103], noM),
  (66, .aload_n 1, 1, [], noM),
  (67, .dup, 1, [], noM),
  (68, .getfield 45, 3, [9, 2, 0, 0, 0, 0, 125], noM),
  (71, .iconst 1, 1, [0, 1], noM),
  (72, .iadd, 1, [], noM),
  (73, .putfield 45, 3, [9, 2, 0, 0, 0, 0, 125], noM),
  (76, .aload_n 0, 1, [], noM),
  (77, .aload_n 1, 1, [], noM),
  (78, .iload_n 2, 1, [], noM),
  (79, .iload_n 3, 1, [], noM),
  (80, .iconst 1, 1, [0, 1], noM),
  (81, .iadd, 1, [], noM),
  (82, .invokevirtual 38, 3, [6, 3, 1, 433, 435, 0, 90, 436], mX6_readLevel),
  (85, .ifCond .ne 5, 3, [90], noM),
  (88, .iconst 0, 1, [0, 0], noM),
  (89, .ireturn, 1, [], noM),
  (90, .aload_n 0, 1, [], noM),
  (91, .iload 6, 2, [], noM),
  (93, .ineg, 1, [], noM),
  (94, .invokevirtual 60, 3, [6, 1, 0, 462, 464, 3, 90, 465], mX6_step),
  (97, .iinc 5 1, 3, [0, 1], noM),
  (100, .goto (-59), 3, [41], noM),
  (103, .iconst 1, 1, [0, 1], noM),
  (104, .ireturn, 1, [], noM)]
set_option maxRecDepth 100000 in
theorem kX6_readLevel : tabOK mX6_readLevel 1 tX6_readLevel = true := by decide +kernel
def tX6_levelOf : List Op := [(0, .iload_n 0, 1, [], noM),
  (1, .tableswitch 105 42 62 #[103, 101, 105, 101, 105, 103, 105, 105, 105, 105, 105, 105, 105, 105, 105, 105, 105, 105, 99, 99, 99], 99, [106, 42, 104, 43, 102, 44, 106, 45, 102, 46, 106, 47, 104, 48, 106, 49, 106, 50, 106, 51, 106, 52, 106, 53, 106, 54, 106, 55, 106, 56, 106, 57, 106, 58, 106, 59, 106, 60, 100, 61, 100, 62, 100], noM),
  (100, .iconst 0, 1, [0, 0], noM),
  (101, .ireturn, 1, [], noM),
  (102, .iconst 1, 1, [0, 1], noM),
  (103, .ireturn, 1, [], noM),
  (104, .iconst 2, 1, [0, 2], noM),
  (105, .ireturn, 1, [], noM),
  (106, .iconst (-1), 1, [1, 1], noM),
  (107, .ireturn, 1, [], noM)]
set_option maxRecDepth 100000 in
theorem kX6_levelOf : tabOK mX6_levelOf 0 tX6_levelOf = true := by decide +kernel
def tX6_readSigned : List Op := [(0, .iconst 0, 1, [0, 0], noM),
  (1, .istore_n 3, 1, [], noM),
  (2, .iconst 0, 1, [0, 0], noM),
  (3, .istore 4, 2, [], noM),
  (5, .iload 4, 2, [], noM),
  (7, .bipush 40, 2, [0, 40], noM),
  (9, .if_icmp .ge 28, 3, [37], noM),
  (12, .aload_n 1, 1, [], noM),
  (13, .bipush 45, 2, [0, 45], noM),
  (15, .invokevirtual 63, 3, [9, 1, 1, 441, 442, 443, 85, 444], mX9_take),
  (18, .ifCond .eq 19, 3, [37], noM),
  (21, .iload_n 3, 1, [], noM),
  (22, .ifCond .ne 7, 3, [29], noM),
  (25, .iconst 1, 1, [0, 1], noM),
  (26, .goto 4, 3, [30], noM),
  (29, .iconst 0, 1, [0, 0], noM),
  (30, .istore_n 3, 1, [], noM),
  (31, .iinc 4 1, 3, [0, 1], noM),
  (34, .goto (-29), 3, [5], noM),
  (37, .aload_n 0, 1, [], noM),
  (38, .aload_n 1, 1, [], noM),
  (39, .iload_n 2, 1, [], noM),
  (40, .invokevirtual 67, 3, [6, 2, 1, 449, 451, 2, 90, 452], mX6_readThing),
  (43, .ifCond .ne 5, 3, [48], noM),
  (46, .iconst 0, 1, [0, 0], noM),
  (47, .ireturn, 1, [], noM),
  (48, .iload_n 3, 1, [], noM),
  (49, .ifCond .eq 9, 3, [58], noM),
  (52, .aload_n 0, 1, [], noM),
  (53, .bipush (-126), 2, [1, 126], noM),
  (55, .invokevirtual 60, 3, [6, 1, 0, 462, 464, 3, 90, 465], mX6_step),
  (58, .iconst 1, 1, [0, 1], noM),
  (59, .ireturn, 1, [], noM)]
set_option maxRecDepth 100000 in
theorem kX6_readSigned : tabOK mX6_readSigned 1 tX6_readSigned = true := by decide +kernel
def tX6_readThing : List Op := [(0, .aload_n 1, 1, [], noM),
  (1, .invokevirtual 52, 3, [9, 0, 1, 453, 446, 447, 85, 448], mX9_peek),
  (4, .bipush 40, 2, [0, 40], noM),
  (6, .if_icmp .ne 47, 3, [53], noM),
  (9, .iload_n 2, 1, [], noM),
  (10, .iconst 4, 1, [0, 4], noM),
  (11, .if_icmp .lt 5, 3, [16], noM),
  (14, .iconst 0, 1, [0, 0], noM),
  (15, .ireturn, 1, [], noM),
  (16, .aload_n 1, 1, [], noM),
  (17, .dup, 1, [], noM),
  (18, .getfield 45, 3, [9, 2, 0, 0, 0, 0, 125], noM),
  (21, .iconst 1, 1, [0, 1], noM),
  (22, .iadd, 1, [], noM),
  (23, .putfield 45, 3, [9, 2, 0, 0, 0, 0, 125], noM),
  (26, .aload_n 0, 1, [], noM),
  (27, .aload_n 1, 1, [], noM),
  (28, .iload_n 2, 1, [], noM),
  (29, .iconst 1, 1, [0, 1], noM),
  (30, .iadd, 1, [], noM),
  (31, .iconst 0, 1, [0, 0], noM),
  (32, .invokevirtual 38, 3, [6, 3, 1, 433, 435, 0, 90, 436], mX6_readLevel),
  (35, .ifCond .eq 16, 3, [51], noM),
  (38, .aload_n 1, 1, [], noM),
  (39, .bipush 41, 2, [0, 41], noM),
  (41, .invokevirtual 63, 3, [9, 1, 1, 441, 442, 443, 85, 444], mX9_take),
  (44, .ifCond .eq 7, 3, [51], noM),
  (47, .iconst 1, 1, [0, 1], noM),
  (48, .goto 4, 3, [52], noM),
  (51, .iconst 0, 1, [0, 0], noM),
  (52, .ireturn, 1, [], noM),
  (53, .aload_n 1, 1, [], noM),
  (54, .iconst 3, 1, [0, 3], noM),
  (55, .invokevirtual 70, 3, [9, 1, 1, 454, 455, 456, 85, 457], mX9_takeNumber),
  (58, .istore_n 3, 1, [], noM),
  (59, .iload_n 3, 1, [], noM),
  (60, .iconst (-1), 1, [1, 1], noM),
  (61, .if_icmp .eq 10, 3, [71], noM),
  (64, .aload_n 0, 1, [], noM),
  (65, .iload_n 3, 1, [], noM),
  (66, .invokevirtual 60, 3, [6, 1, 0, 462, 464, 3, 90, 465], mX6_step),
  (69, .iconst 1, 1, [0, 1], noM),
  (70, .ireturn, 1, [], noM),
  (71, .aload_n 1, 1, [], noM),
  (72, .invokevirtual 52, 3, [9, 0, 1, 453, 446, 447, 85, 448], mX9_peek),
  (75, .invokestatic 73, 3, [0, 1, 1, 466, 467, 90, 468], mX6_isLetter),
  (78, .ifCond .ne 5, 3, [83], noM),
  (81, .iconst 0, 1, [0, 0], noM),
  (82, .ireturn, 1, [], noM),
  (83, .aload_n 0, 1, [], noM),
  (84, .aload_n 1, 1, [], noM),
  (85, .invokevirtual 76, 3, [9, 0, 1, 469, 470, 471, 85, 472], mX9_next),
  (88, .ineg, 1, [], noM),
  (89, .invokevirtual 60, 3, [6, 1, 0, 462, 464, 3, 90, 465], mX6_step),
  (92, .iconst 1, 1, [0, 1], noM),
  (93, .ireturn, 1, [], noM)]
set_option maxRecDepth 100000 in
theorem kX6_readThing : tabOK mX6_readThing 1 tX6_readThing = true := by decide +kernel
def tX6_isLetter : List Op := [(0, .iload_n 0, 1, [], noM),
  (1, .tableswitch 109 97 119 #[107, 109, 109, 107, 107, 107, 109, 107, 109, 109, 109, 107, 109, 109, 109, 109, 109, 109, 107, 109, 109, 109, 107], 107, [110, 97, 108, 98, 110, 99, 110, 100, 108, 101, 108, 102, 108, 103, 110, 104, 108, 105, 110, 106, 110, 107, 110, 108, 108, 109, 110, 110, 110, 111, 110, 112, 110, 113, 110, 114, 110, 115, 108, 116, 110, 117, 110, 118, 110, 119, 108], noM),
  (108, .iconst 1, 1, [0, 1], noM),
  (109, .ireturn, 1, [], noM),
  (110, .iconst 0, 1, [0, 0], noM),
  (111, .ireturn, 1, [], noM)]
set_option maxRecDepth 100000 in
theorem kX6_isLetter : tabOK mX6_isLetter 1 tX6_isLetter = true := by decide +kernel
def tX6_value : List Op := [(0, .iconst 0, 1, [0, 0], noM),
  (1, .istore 5, 2, [], noM),
  (3, .iconst 0, 1, [0, 0], noM),
  (4, .istore 6, 2, [], noM),
  (6, .iload 6, 2, [], noM),
  (8, .aload_n 0, 1, [], noM),
  (9, .getfield 34, 3, [6, 2, 0, 0, 0, 0, 218], noM),
  (12, .if_icmp .ge 134, 3, [146], noM),
  (15, .aload_n 0, 1, [], noM),
  (16, .getfield 11, 3, [6, 0, 2, 26, 1, 0, 216], noM),
  (19, .iload 6, 2, [], noM),
  (21, .iaload, 1, [], noM),
  (22, .istore 7, 2, [], noM),
  (24, .iload 7, 2, [], noM),
  (26, .ifCond .lt 18, 3, [44], noM),
  (29, .aload_n 0, 1, [], noM),
  (30, .getfield 15, 3, [6, 1, 2, 27, 1, 0, 217], noM),
  (33, .iload 5, 2, [], noM),
  (35, .iload 7, 2, [], noM),
  (37, .iastore, 1, [], noM),
  (38, .iinc 5 1, 3, [0, 1], noM),
  (41, .goto 99, 3, [140], noM),
  (44, .iload 7, 2, [], noM),
  (46, .ineg, 1, [], noM),
  (47, .invokestatic 73, 3, [0, 1, 1, 466, 467, 90, 468], mX6_isLetter),
  (50, .ifCond .eq 27, 3, [77], noM),
  (53, .aload_n 0, 1, [], noM),
  (54, .getfield 15, 3, [6, 1, 2, 27, 1, 0, 217], noM),
  (57, .iload 5, 2, [], noM),
  (59, .iload 7, 2, [], noM),
  (61, .ineg, 1, [], noM),
  (62, .aload_n 1, 1, [], noM),
  (63, .aload_n 2, 1, [], noM),
  (64, .iload_n 3, 1, [], noM),
  (65, .iload 4, 2, [], noM),
  (67, .invokestatic 79, 3, [0, 5, 1, 709, 710, 90, 711], mX6_letter),
  (70, .iastore, 1, [], noM),
  (71, .iinc 5 1, 3, [0, 1], noM),
  (74, .goto 66, 3, [140], noM),
  (77, .iload 7, 2, [], noM),
  (79, .bipush (-126), 2, [1, 126], noM),
  (81, .if_icmp .ne 25, 3, [106], noM),
  (84, .aload_n 0, 1, [], noM),
  (85, .getfield 15, 3, [6, 1, 2, 27, 1, 0, 217], noM),
  (88, .iload 5, 2, [], noM),
  (90, .iconst 1, 1, [0, 1], noM),
  (91, .isub, 1, [], noM),
  (92, .aload_n 0, 1, [], noM),
  (93, .getfield 15, 3, [6, 1, 2, 27, 1, 0, 217], noM),
  (96, .iload 5, 2, [], noM),
  (98, .iconst 1, 1, [0, 1], noM),
  (99, .isub, 1, [], noM),
  (100, .iaload, 1, [], noM),
  (101, .ineg, 1, [], noM),
  (102, .iastore, 1, [], noM),
  (103, .goto 37, 3, [140], noM),
  (106, .iinc 5 (-1), 3, [1, 1], noM),
  (109, .aload_n 0, 1, [], noM),
  (110, .getfield 15, 3, [6, 1, 2, 27, 1, 0, 217], noM),
  (113, .iload 5, 2, [], noM),
  (115, .iconst 1, 1, [0, 1], noM),
  (116, .isub, 1, [], noM),
  (117, .iload 7, 2, [], noM),
  (119, .ineg, 1, [], noM),
  (120, .aload_n 0, 1, [], noM),
  (121, .getfield 15, 3, [6, 1, 2, 27, 1, 0, 217], noM),
  (124, .iload 5, 2, [], noM),
  (126, .iconst 1, 1, [0, 1], noM),
  (127, .isub, 1, [], noM),
  (128, .iaload, 1, [], noM),
  (129, .aload_n 0, 1, [], noM),
  (130, .getfield 15, 3, [6, 1, 2, 27, 1, 0, 217], noM),
  (133, .iload 5, 2, [], noM),
  (135, .iaload, 1, [], noM),
  (136, .invokestatic 83, 3, [0, 3, 1, 726, 727, 90, 728], mX6_joined),
  (139, .iastore, 1, [], noM),
  (140, .iinc 6 1, 3, [0, 1], noM),
  (143, .goto (-137), 3, [6], noM),
  (146, .aload_n 0, 1, [], noM),
  (147, .getfield 15, 3, [6, 1, 2, 27, 1, 0, 217], noM),
  (150, .iconst 0, 1, [0, 0], noM),
  (151, .iaload, 1, [], noM),
  (152, .ireturn, 1, [], noM)]
set_option maxRecDepth 100000 in
theorem kX6_value : tabOK mX6_value 0 tX6_value = true := by decide +kernel
def tX6_letter : List Op := [(0, .iload_n 0, 1, [], noM),
  (1, .tableswitch 156 97 119 #[141, 156, 156, 156, 148, 126, 156, 114, 156, 156, 156, 132, 156, 156, 156, 156, 156, 156, 107, 156, 156, 156, 120], 107, [157, 97, 142, 98, 157, 99, 157, 100, 157, 101, 149, 102, 127, 103, 157, 104, 115, 105, 157, 106, 157, 107, 157, 108, 133, 109, 157, 110, 157, 111, 157, 112, 157, 113, 157, 114, 157, 115, 108, 116, 157, 117, 157, 118, 157, 119, 121], noM),
  (108, .aload_n 1, 1, [], noM),
  (109, .iconst 1, 1, [0, 1], noM),
  (110, .iload_n 3, 1, [], noM),
  (111, .invokevirtual 89, 3, [3, 2, 1, 712, 575, 576, 87, 577], mX3_of),
  (114, .ireturn, 1, [], noM),
  (115, .aload_n 2, 1, [], noM),
  (116, .iload_n 3, 1, [], noM),
  (117, .invokevirtual 93, 3, [8, 1, 1, 713, 687, 688, 91, 689], mX8_hurt),
  (120, .ireturn, 1, [], noM),
  (121, .aload_n 2, 1, [], noM),
  (122, .iload_n 3, 1, [], noM),
  (123, .invokevirtual 98, 3, [8, 1, 1, 714, 715, 716, 91, 717], mX8_won),
  (126, .ireturn, 1, [], noM),
  (127, .aload_n 2, 1, [], noM),
  (128, .iload_n 3, 1, [], noM),
  (129, .invokevirtual 101, 3, [8, 1, 1, 718, 719, 720, 91, 721], mX8_fought),
  (132, .ireturn, 1, [], noM),
  (133, .aload_n 2, 1, [], noM),
  (134, .iload_n 3, 1, [], noM),
  (135, .invokevirtual 104, 3, [8, 1, 1, 722, 723, 724, 91, 725], mX8_favour),
  (138, .bipush 10, 2, [0, 10], noM),
  (140, .idiv, 1, [], noM),
  (141, .ireturn, 1, [], noM),
  (142, .aload_n 1, 1, [], noM),
  (143, .iconst 0, 1, [0, 0], noM),
  (144, .iload_n 3, 1, [], noM),
  (145, .invokevirtual 89, 3, [3, 2, 1, 712, 575, 576, 87, 577], mX3_of),
  (148, .ireturn, 1, [], noM),
  (149, .aload_n 1, 1, [], noM),
  (150, .iconst 0, 1, [0, 0], noM),
  (151, .iload 4, 2, [], noM),
  (153, .invokevirtual 89, 3, [3, 2, 1, 712, 575, 576, 87, 577], mX3_of),
  (156, .ireturn, 1, [], noM),
  (157, .aload_n 2, 1, [], noM),
  (158, .getfield 107, 3, [8, 0, 2, 33, 1, 0, 254], noM),
  (161, .bipush 46, 2, [0, 46], noM),
  (163, .iaload, 1, [], noM),
  (164, .bipush 8, 2, [0, 8], noM),
  (166, .irem, 1, [], noM),
  (167, .ireturn, 1, [], noM)]
set_option maxRecDepth 100000 in
theorem kX6_letter : tabOK mX6_letter 0 tX6_letter = true := by decide +kernel
def tX6_joined : List Op := [(0, .iload_n 0, 1, [], noM),
  (1, .lookupswitch 104 #[(42, 100), (43, 92), (45, 96), (60, 59), (61, 81), (62, 70)], 59, [105, 42, 101, 43, 93, 45, 97, 60, 60, 61, 82, 62, 71], noM),
  (60, .iload_n 1, 1, [], noM),
  (61, .iload_n 2, 1, [], noM),
  (62, .if_icmp .ge 7, 3, [69], noM),
  (65, .iconst 1, 1, [0, 1], noM),
  (66, .goto 4, 3, [70], noM),
  (69, .iconst 0, 1, [0, 0], noM),
  (70, .ireturn, 1, [], noM),
  (71, .iload_n 1, 1, [], noM),
  (72, .iload_n 2, 1, [], noM),
  (73, .if_icmp .le 7, 3, [80], noM),
  (76, .iconst 1, 1, [0, 1], noM),
  (77, .goto 4, 3, [81], noM),
  (80, .iconst 0, 1, [0, 0], noM),
  (81, .ireturn, 1, [], noM),
  (82, .iload_n 1, 1, [], noM),
  (83, .iload_n 2, 1, [], noM),
  (84, .if_icmp .ne 7, 3, [91], noM),
  (87, .iconst 1, 1, [0, 1], noM),
  (88, .goto 4, 3, [92], noM),
  (91, .iconst 0, 1, [0, 0], noM),
  (92, .ireturn, 1, [], noM),
  (93, .iload_n 1, 1, [], noM),
  (94, .iload_n 2, 1, [], noM),
  (95, .iadd, 1, [], noM),
  (96, .ireturn, 1, [], noM),
  (97, .iload_n 1, 1, [], noM),
  (98, .iload_n 2, 1, [], noM),
  (99, .isub, 1, [], noM),
  (100, .ireturn, 1, [], noM),
  (101, .iload_n 1, 1, [], noM),
  (102, .iload_n 2, 1, [], noM),
  (103, .imul, 1, [], noM),
  (104, .ireturn, 1, [], noM),
  (105, .iload_n 2, 1, [], noM),
  (106, .ifCond .ne 7, 3, [113], noM),
  (109, .iconst 0, 1, [0, 0], noM),
  (110, .goto 6, 3, [116], noM),
  (113, .iload_n 1, 1, [], noM),
  (114, .iload_n 2, 1, [], noM),
  (115, .idiv, 1, [], noM),
  (116, .ireturn, 1, [], noM)]
set_option maxRecDepth 100000 in
theorem kX6_joined : tabOK mX6_joined 0 tX6_joined = true := by decide +kernel
def tX7_enter : List Op := [(0, .aload_n 0, 1, [], noM),
  (1, .getfield 17, 3, [7, 2, 2, 29, 0, 0, 294], noM),
  (4, .iload_n 1, 1, [], noM),
  (5, .bipush 8, 2, [0, 8], noM),
  (7, .imul, 1, [], noM),
  (8, .iload_n 2, 1, [], noM),
  (9, .iadd, 1, [], noM),
  (10, .iload_n 3, 1, [], noM),
  (11, .ifCond .eq 7, 3, [18], noM),
  (14, .iconst 1, 1, [0, 1], noM),
  (15, .goto 4, 3, [19], noM),
  (18, .iconst 0, 1, [0, 0], noM),
  (19, .iastore, 1, [], noM),
  (20, .aload_n 0, 1, [], noM),
  (21, .getfield 21, 3, [7, 3, 2, 30, 0, 0, 295], noM),
  (24, .iload_n 1, 1, [], noM),
  (25, .bipush 8, 2, [0, 8], noM),
  (27, .imul, 1, [], noM),
  (28, .iload_n 2, 1, [], noM),
  (29, .iadd, 1, [], noM),
  (30, .iload 4, 2, [], noM),
  (32, .iastore, 1, [], noM),
  (33, .return_, 1, [], noM)]
set_option maxRecDepth 100000 in
theorem kX7_enter : tabOK mX7_enter 3 tX7_enter = true := by decide +kernel
def tX7_leastDead : List Op := [(0, .aload_n 0, 1, [], noM),
  (1, .iload_n 1, 1, [], noM),
  (2, .putfield 35, 3, [7, 6, 0, 0, 0, 0, 299], noM),
  (5, .aload_n 0, 1, [], noM),
  (6, .iconst 0, 1, [0, 0], noM),
  (7, .putfield 39, 3, [7, 8, 1, 0, 0, 0, 301], noM),
  (10, .aload_n 0, 1, [], noM),
  (11, .iconst 0, 1, [0, 0], noM),
  (12, .iconst 0, 1, [0, 0], noM),
  (13, .iload_n 2, 1, [], noM),
  (14, .iconst 0, 1, [0, 0], noM),
  (15, .iconst 0, 1, [0, 0], noM),
  (16, .invokevirtual 43, 3, [7, 5, 0, 907, 909, 17, 93, 910], mX7_addPair),
  (19, .aload_n 0, 1, [], noM),
  (20, .getfield 39, 3, [7, 8, 1, 0, 0, 0, 301], noM),
  (23, .ifCond .eq 11, 3, [34], noM),
  (26, .aload_n 0, 1, [], noM),
  (27, .getfield 47, 3, [7, 9, 0, 0, 0, 0, 302], noM),
  (30, .ineg, 1, [], noM),
  (31, .goto 4, 3, [35], noM),
  (34, .iconst (-1), 1, [1, 1], noM),
  (35, .ireturn, 1, [], noM)]
set_option maxRecDepth 100000 in
theorem kX7_leastDead : tabOK mX7_leastDead 0 tX7_leastDead = true := by decide +kernel
def tX7_addPair : List Op := [(0, .iload_n 1, 1, [], noM),
  (1, .aload_n 0, 1, [], noM),
  (2, .getfield 35, 3, [7, 6, 0, 0, 0, 0, 299], noM),
  (5, .if_icmp .ge 8, 3, [13], noM),
  (8, .iload_n 1, 1, [], noM),
  (9, .iconst 4, 1, [0, 4], noM),
  (10, .if_icmp .lt 13, 3, [23], noM),
  (13, .aload_n 0, 1, [], noM),
  (14, .iload 4, 2, [], noM),
  (16, .ineg, 1, [], noM),
  (17, .iload 5, 2, [], noM),
  (19, .invokevirtual 50, 3, [7, 2, 0, 911, 913, 18, 93, 914], mX7_compare),
  (22, .return_, 1, [], noM),
  (23, .iload_n 2, 1, [], noM),
  (24, .istore 6, 2, [], noM),
  (26, .iload 6, 2, [], noM),
  (28, .bipush 8, 2, [0, 8], noM),
  (30, .if_icmp .ge 111, 3, [141], noM),
  (33, .iload 6, 2, [], noM),
  (35, .iconst 1, 1, [0, 1], noM),
  (36, .iadd, 1, [], noM),
  (37, .istore 7, 2, [], noM),
  (39, .iload 7, 2, [], noM),
  (41, .bipush 8, 2, [0, 8], noM),
  (43, .if_icmp .ge 92, 3, [135], noM),
  (46, .iload_n 3, 1, [], noM),
  (47, .iload 6, 2, [], noM),
  (49, .ishr, 1, [], noM),
  (50, .iload_n 3, 1, [], noM),
  (51, .iload 7, 2, [], noM),
  (53, .ishr, 1, [], noM),
  (54, .iand, 1, [], noM),
  (55, .iconst 1, 1, [0, 1], noM),
  (56, .iand, 1, [], noM),
  (57, .ifCond .ne 6, 3, [63], noM),
  (60, .goto 69, 3, [129], noM),
  (63, .iload 6, 2, [], noM),
  (65, .bipush 8, 2, [0, 8], noM),
  (67, .imul, 1, [], noM),
  (68, .iload 7, 2, [], noM),
  (70, .iadd, 1, [], noM),
  (71, .istore 8, 2, [], noM),
  (73, .iload_n 3, 1, [], noM),
  (74, .iconst 1, 1, [0, 1], noM),
  (75, .iload 6, 2, [], noM),
  (77, .ishl, 1, [], noM),
  (78, .iconst 1, 1, [0, 1], noM),
  (79, .iload 7, 2, [], noM),
  (81, .ishl, 1, [], noM),
  (82, .ior, 1, [], noM),
  (83, .iconst (-1), 1, [1, 1], noM),
  (84, .ixor, 1, [], noM),
  (85, .iand, 1, [], noM),
  (86, .istore 9, 2, [], noM),
  (88, .aload_n 0, 1, [], noM),
  (89, .getfield 24, 3, [7, 4, 2, 31, 0, 0, 296], noM),
  (92, .iload_n 1, 1, [], noM),
  (93, .iload 8, 2, [], noM),
  (95, .iastore, 1, [], noM),
  (96, .aload_n 0, 1, [], noM),
  (97, .iload_n 1, 1, [], noM),
  (98, .iconst 1, 1, [0, 1], noM),
  (99, .iadd, 1, [], noM),
  (100, .iload 6, 2, [], noM),
  (102, .iconst 1, 1, [0, 1], noM),
  (103, .iadd, 1, [], noM),
  (104, .iload 9, 2, [], noM),
  (106, .iload 4, 2, [], noM),
  (108, .aload_n 0, 1, [], noM),
  (109, .getfield 17, 3, [7, 2, 2, 29, 0, 0, 294], noM),
  (112, .iload 8, 2, [], noM),
  (114, .iaload, 1, [], noM),
  (115, .iadd, 1, [], noM),
  (116, .iload 5, 2, [], noM),
  (118, .aload_n 0, 1, [], noM),
  (119, .getfield 21, 3, [7, 3, 2, 30, 0, 0, 295], noM),
  (122, .iload 8, 2, [], noM),
  (124, .iaload, 1, [], noM),
  (125, .iadd, 1, [], noM),
  (126, .invokevirtual 43, 3, [7, 5, 0, 907, 909, 17, 93, 910], mX7_addPair),
  (129, .iinc 7 1, 3, [0, 1], noM),
  (132, .goto (-93), 3, [39], noM),
  (135, .iinc 6 1, 3, [0, 1], noM),
  (138, .goto (-112), 3, [26], noM),
  (141, .return_, 1, [], noM)]
set_option maxRecDepth 100000 in
theorem kX7_addPair : tabOK mX7_addPair 3 tX7_addPair = true := by decide +kernel
def tX7_mostFavour : List Op := [(0, .aload_n 0, 1, [], noM),
  (1, .iload_n 3, 1, [], noM),
  (2, .putfield 35, 3, [7, 6, 0, 0, 0, 0, 299], noM),
  (5, .aload_n 0, 1, [], noM),
  (6, .iload_n 2, 1, [], noM),
  (7, .putfield 54, 3, [7, 7, 0, 0, 0, 0, 300], noM),
  (10, .aload_n 0, 1, [], noM),
  (11, .iconst 0, 1, [0, 0], noM),
  (12, .putfield 39, 3, [7, 8, 1, 0, 0, 0, 301], noM),
  (15, .aload_n 0, 1, [], noM),
  (16, .getfield 13, 3, [7, 1, 2, 28, 0, 0, 293], noM),
  (19, .iconst 0, 1, [0, 0], noM),
  (20, .aaload, 1, [], noM),
  (21, .aload_n 1, 1, [], noM),
  (22, .invokevirtual 57, 3, [8, 1, 0, 936, 655, 656, 91, 657], mX8_take),
  (25, .aload_n 0, 1, [], noM),
  (26, .iconst 0, 1, [0, 0], noM),
  (27, .invokevirtual 61, 3, [7, 1, 0, 937, 939, 19, 93, 940], mX7_addFight),
  (30, .aload_n 0, 1, [], noM),
  (31, .getfield 39, 3, [7, 8, 1, 0, 0, 0, 301], noM),
  (34, .ifCond .eq 10, 3, [44], noM),
  (37, .aload_n 0, 1, [], noM),
  (38, .getfield 47, 3, [7, 9, 0, 0, 0, 0, 302], noM),
  (41, .goto 4, 3, [45], noM),
  (44, .iconst (-1), 1, [1, 1], noM),
  (45, .ireturn, 1, [], noM)]
set_option maxRecDepth 100000 in
theorem kX7_mostFavour : tabOK mX7_mostFavour 0 tX7_mostFavour = true := by decide +kernel
def tX7_addFight : List Op := [(0, .aload_n 0, 1, [], noM),
  (1, .getfield 13, 3, [7, 1, 2, 28, 0, 0, 293], noM),
  (4, .iload_n 1, 1, [], noM),
  (5, .aaload, 1, [], noM),
  (6, .astore_n 2, 1, [], noM),
  (7, .iload_n 1, 1, [], noM),
  (8, .aload_n 0, 1, [], noM),
  (9, .getfield 35, 3, [7, 6, 0, 0, 0, 0, 299], noM),
  (12, .if_icmp .ge 8, 3, [20], noM),
  (15, .iload_n 1, 1, [], noM),
  (16, .iconst 4, 1, [0, 4], noM),
  (17, .if_icmp .lt 17, 3, [34], noM),
  (20, .aload_n 0, 1, [], noM),
  (21, .aload_n 2, 1, [], noM),
  (22, .aload_n 0, 1, [], noM),
  (23, .getfield 54, 3, [7, 7, 0, 0, 0, 0, 300], noM),
  (26, .invokevirtual 65, 3, [8, 1, 1, 941, 723, 724, 91, 725], mX8_favour),
  (29, .iconst 0, 1, [0, 0], noM),
  (30, .invokevirtual 50, 3, [7, 2, 0, 911, 913, 18, 93, 914], mX7_compare),
  (33, .return_, 1, [], noM),
  (34, .aload_n 0, 1, [], noM),
  (35, .getfield 39, 3, [7, 8, 1, 0, 0, 0, 301], noM),
  (38, .ifCond .eq 34, 3, [72], noM),
  (41, .aload_n 0, 1, [], noM),
  (42, .getfield 47, 3, [7, 9, 0, 0, 0, 0, 302], noM),
  (45, .bipush 99, 2, [0, 99], noM),
  (47, .aload_n 2, 1, [], noM),
  (48, .aload_n 0, 1, [], noM),
  (49, .getfield 54, 3, [7, 7, 0, 0, 0, 0, 300], noM),
  (52, .invokevirtual 65, 3, [8, 1, 1, 941, 723, 724, 91, 725], mX8_favour),
  (55, .bipush 10, 2, [0, 10], noM),
  (57, .aload_n 0, 1, [], noM),
  (58, .getfield 35, 3, [7, 6, 0, 0, 0, 0, 299], noM),
  (61, .iload_n 1, 1, [], noM),
  (62, .isub, 1, [], noM),
  (63, .imul, 1, [], noM),
  (64, .iadd, 1, [], noM),
  (65, .invokestatic 69, 3, [2, 942, 645, 106, 646], noM),
  (68, .if_icmp .lt 4, 3, [72], noM),
  (71, .return_, 1, [], noM),
  (72, .aload_n 0, 1, [], noM),
  (73, .getfield 13, 3, [7, 1, 2, 28, 0, 0, 293], noM),
  (76, .iload_n 1, 1, [], noM),
  (77, .iconst 1, 1, [0, 1], noM),
  (78, .iadd, 1, [], noM),
  (79, .aaload, 1, [], noM),
  (80, .astore_n 3, 1, [], noM),
  (81, .iconst 0, 1, [0, 0], noM),
  (82, .istore 4, 2, [], noM),
  (84, .iload 4, 2, [], noM),
  (86, .bipush 8, 2, [0, 8], noM),
  (88, .if_icmp .ge 57, 3, [145], noM),
  (91, .aload_n 3, 1, [], noM),
  (92, .aload_n 2, 1, [], noM),
  (93, .invokevirtual 57, 3, [8, 1, 0, 936, 655, 656, 91, 657], mX8_take),
  (96, .aload_n 0, 1, [], noM),
  (97, .getfield 30, 3, [7, 0, 2, 0, 0, 0, 292], noM),
  (100, .aload_n 3, 1, [], noM),
  (101, .aload_n 0, 1, [], noM),
  (102, .getfield 54, 3, [7, 7, 0, 0, 0, 0, 300], noM),
  (105, .iload 4, 2, [], noM),
  (107, .invokevirtual 75, 3, [0, 3, 1, 943, 662, 663, 89, 664], mX0_meet),
  (110, .ifCond .lt 29, 3, [139], noM),
  (113, .aload_n 3, 1, [], noM),
  (114, .aload_n 0, 1, [], noM),
  (115, .getfield 54, 3, [7, 7, 0, 0, 0, 0, 300], noM),
  (118, .invokevirtual 81, 3, [8, 1, 1, 944, 756, 757, 91, 758], mX8_isDead),
  (121, .ifCond .ne 18, 3, [139], noM),
  (124, .aload_n 0, 1, [], noM),
  (125, .getfield 24, 3, [7, 4, 2, 31, 0, 0, 296], noM),
  (128, .iload_n 1, 1, [], noM),
  (129, .iload 4, 2, [], noM),
  (131, .iastore, 1, [], noM),
  (132, .aload_n 0, 1, [], noM),
  (133, .iload_n 1, 1, [], noM),
  (134, .iconst 1, 1, [0, 1], noM),
  (135, .iadd, 1, [], noM),
  (136, .invokevirtual 61, 3, [7, 1, 0, 937, 939, 19, 93, 940], mX7_addFight),
  (139, .iinc 4 1, 3, [0, 1], noM),
  (142, .goto (-58), 3, [84], noM),
  (145, .return_, 1, [], noM)]
set_option maxRecDepth 100000 in
theorem kX7_addFight : tabOK mX7_addFight 3 tX7_addFight = true := by decide +kernel
def tX7_compare : List Op := [(0, .aload_n 0, 1, [], noM),
  (1, .getfield 39, 3, [7, 8, 1, 0, 0, 0, 301], noM),
  (4, .ifCond .eq 28, 3, [32], noM),
  (7, .iload_n 1, 1, [], noM),
  (8, .aload_n 0, 1, [], noM),
  (9, .getfield 47, 3, [7, 9, 0, 0, 0, 0, 302], noM),
  (12, .if_icmp .lt 19, 3, [31], noM),
  (15, .iload_n 1, 1, [], noM),
  (16, .aload_n 0, 1, [], noM),
  (17, .getfield 47, 3, [7, 9, 0, 0, 0, 0, 302], noM),
  (20, .if_icmp .ne 12, 3, [32], noM),
  (23, .iload_n 2, 1, [], noM),
  (24, .aload_n 0, 1, [], noM),
  (25, .getfield 85, 3, [7, 10, 0, 0, 0, 0, 303], noM),
  (28, .if_icmp .gt 4, 3, [32], noM),
  (31, .return_, 1, [], noM),
  (32, .aload_n 0, 1, [], noM),
  (33, .iconst 1, 1, [0, 1], noM),
  (34, .putfield 39, 3, [7, 8, 1, 0, 0, 0, 301], noM),
  (37, .aload_n 0, 1, [], noM),
  (38, .iload_n 1, 1, [], noM),
  (39, .putfield 47, 3, [7, 9, 0, 0, 0, 0, 302], noM),
  (42, .aload_n 0, 1, [], noM),
  (43, .iload_n 2, 1, [], noM),
  (44, .putfield 85, 3, [7, 10, 0, 0, 0, 0, 303], noM),
  (47, .aload_n 0, 1, [], noM),
  (48, .getfield 24, 3, [7, 4, 2, 31, 0, 0, 296], noM),
  (51, .iconst 0, 1, [0, 0], noM),
  (52, .aload_n 0, 1, [], noM),
  (53, .getfield 27, 3, [7, 5, 2, 32, 0, 0, 297], noM),
  (56, .iconst 0, 1, [0, 0], noM),
  (57, .iconst 4, 1, [0, 4], noM),
  (58, .invokestatic 88, 3, [6, 915, 660, 659, 107], noM),
  (61, .return_, 1, [], noM)]
set_option maxRecDepth 100000 in
theorem kX7_compare : tabOK mX7_compare 3 tX7_compare = true := by decide +kernel
def tX8_take : List Op := [(0, .aload_n 1, 1, [], noM),
  (1, .getfield 11, 3, [8, 0, 2, 33, 1, 0, 251], noM),
  (4, .iconst 0, 1, [0, 0], noM),
  (5, .aload_n 0, 1, [], noM),
  (6, .getfield 11, 3, [8, 0, 2, 33, 1, 0, 251], noM),
  (9, .iconst 0, 1, [0, 0], noM),
  (10, .bipush 47, 2, [0, 47], noM),
  (12, .invokestatic 15, 3, [6, 658, 660, 659, 107], noM),
  (15, .return_, 1, [], noM)]
set_option maxRecDepth 100000 in
theorem kX8_take : tabOK mX8_take 3 tX8_take = true := by decide +kernel
def tX8_favour : List Op := [(0, .aload_n 0, 1, [], noM),
  (1, .getfield 11, 3, [8, 0, 2, 33, 1, 0, 251], noM),
  (4, .iconst 0, 1, [0, 0], noM),
  (5, .iload_n 1, 1, [], noM),
  (6, .iadd, 1, [], noM),
  (7, .iaload, 1, [], noM),
  (8, .ireturn, 1, [], noM)]
set_option maxRecDepth 100000 in
theorem kX8_favour : tabOK mX8_favour 0 tX8_favour = true := by decide +kernel
def tX8_hurt : List Op := [(0, .aload_n 0, 1, [], noM),
  (1, .getfield 11, 3, [8, 0, 2, 33, 1, 0, 251], noM),
  (4, .bipush 8, 2, [0, 8], noM),
  (6, .iload_n 1, 1, [], noM),
  (7, .iadd, 1, [], noM),
  (8, .iaload, 1, [], noM),
  (9, .ireturn, 1, [], noM)]
set_option maxRecDepth 100000 in
theorem kX8_hurt : tabOK mX8_hurt 0 tX8_hurt = true := by decide +kernel
def tX8_fought : List Op := [(0, .aload_n 0, 1, [], noM),
  (1, .getfield 11, 3, [8, 0, 2, 33, 1, 0, 251], noM),
  (4, .bipush 16, 2, [0, 16], noM),
  (6, .iload_n 1, 1, [], noM),
  (7, .iadd, 1, [], noM),
  (8, .iaload, 1, [], noM),
  (9, .ireturn, 1, [], noM)]
set_option maxRecDepth 100000 in
theorem kX8_fought : tabOK mX8_fought 0 tX8_fought = true := by decide +kernel
def tX8_won : List Op := [(0, .aload_n 0, 1, [], noM),
  (1, .getfield 11, 3, [8, 0, 2, 33, 1, 0, 251], noM),
  (4, .bipush 24, 2, [0, 24], noM),
  (6, .iload_n 1, 1, [], noM),
  (7, .iadd, 1, [], noM),
  (8, .iaload, 1, [], noM),
  (9, .ireturn, 1, [], noM)]
set_option maxRecDepth 100000 in
theorem kX8_won : tabOK mX8_won 0 tX8_won = true := by decide +kernel
def tX8_fate : List Op := [(0, .aload_n 0, 1, [], noM),
  (1, .getfield 11, 3, [8, 0, 2, 33, 1, 0, 251], noM),
  (4, .bipush 32, 2, [0, 32], noM),
  (6, .iload_n 1, 1, [], noM),
  (7, .iadd, 1, [], noM),
  (8, .iaload, 1, [], noM),
  (9, .ireturn, 1, [], noM)]
set_option maxRecDepth 100000 in
theorem kX8_fate : tabOK mX8_fate 0 tX8_fate = true := by decide +kernel
def tX8_means : List Op := [(0, .aload_n 0, 1, [], noM),
  (1, .getfield 11, 3, [8, 0, 2, 33, 1, 0, 251], noM),
  (4, .bipush 45, 2, [0, 45], noM),
  (6, .iaload, 1, [], noM),
  (7, .ireturn, 1, [], noM)]
set_option maxRecDepth 100000 in
theorem kX8_means : tabOK mX8_means 0 tX8_means = true := by decide +kernel
def tX8_isHere : List Op := [(0, .aload_n 0, 1, [], noM),
  (1, .iload_n 1, 1, [], noM),
  (2, .invokevirtual 21, 3, [8, 1, 1, 677, 678, 679, 91, 680], mX8_fate),
  (5, .ifCond .ne 7, 3, [12], noM),
  (8, .iconst 1, 1, [0, 1], noM),
  (9, .goto 4, 3, [13], noM),
  (12, .iconst 0, 1, [0, 0], noM),
  (13, .ireturn, 1, [], noM)]
set_option maxRecDepth 100000 in
theorem kX8_isHere : tabOK mX8_isHere 1 tX8_isHere = true := by decide +kernel
def tX8_isDead : List Op := [(0, .aload_n 0, 1, [], noM),
  (1, .iload_n 1, 1, [], noM),
  (2, .invokevirtual 21, 3, [8, 1, 1, 677, 678, 679, 91, 680], mX8_fate),
  (5, .iconst 1, 1, [0, 1], noM),
  (6, .if_icmp .ne 7, 3, [13], noM),
  (9, .iconst 1, 1, [0, 1], noM),
  (10, .goto 4, 3, [14], noM),
  (13, .iconst 0, 1, [0, 0], noM),
  (14, .ireturn, 1, [], noM)]
set_option maxRecDepth 100000 in
theorem kX8_isDead : tabOK mX8_isDead 1 tX8_isDead = true := by decide +kernel
def tX8_canFight : List Op := [(0, .aload_n 0, 1, [], noM),
  (1, .iload_n 1, 1, [], noM),
  (2, .invokevirtual 25, 3, [8, 1, 1, 685, 674, 675, 91, 676], mX8_isHere),
  (5, .ifCond .eq 17, 3, [22], noM),
  (8, .aload_n 0, 1, [], noM),
  (9, .iload_n 1, 1, [], noM),
  (10, .invokevirtual 29, 3, [8, 1, 1, 686, 687, 688, 91, 689], mX8_hurt),
  (13, .bipush 9, 2, [0, 9], noM),
  (15, .if_icmp .ge 7, 3, [22], noM),
  (18, .iconst 1, 1, [0, 1], noM),
  (19, .goto 4, 3, [23], noM),
  (22, .iconst 0, 1, [0, 0], noM),
  (23, .ireturn, 1, [], noM)]
set_option maxRecDepth 100000 in
theorem kX8_canFight : tabOK mX8_canFight 1 tX8_canFight = true := by decide +kernel
def tX8_enter : List Op := [(0, .aload_n 0, 1, [], noM),
  (1, .getfield 11, 3, [8, 0, 2, 33, 1, 0, 251], noM),
  (4, .iconst 0, 1, [0, 0], noM),
  (5, .iload_n 1, 1, [], noM),
  (6, .iadd, 1, [], noM),
  (7, .iload_n 2, 1, [], noM),
  (8, .iastore, 1, [], noM),
  (9, .aload_n 0, 1, [], noM),
  (10, .getfield 11, 3, [8, 0, 2, 33, 1, 0, 251], noM),
  (13, .bipush 8, 2, [0, 8], noM),
  (15, .iload_n 1, 1, [], noM),
  (16, .iadd, 1, [], noM),
  (17, .iconst 0, 1, [0, 0], noM),
  (18, .iastore, 1, [], noM),
  (19, .aload_n 0, 1, [], noM),
  (20, .getfield 11, 3, [8, 0, 2, 33, 1, 0, 251], noM),
  (23, .bipush 16, 2, [0, 16], noM),
  (25, .iload_n 1, 1, [], noM),
  (26, .iadd, 1, [], noM),
  (27, .iconst 0, 1, [0, 0], noM),
  (28, .iastore, 1, [], noM),
  (29, .aload_n 0, 1, [], noM),
  (30, .getfield 11, 3, [8, 0, 2, 33, 1, 0, 251], noM),
  (33, .bipush 24, 2, [0, 24], noM),
  (35, .iload_n 1, 1, [], noM),
  (36, .iadd, 1, [], noM),
  (37, .iconst 0, 1, [0, 0], noM),
  (38, .iastore, 1, [], noM),
  (39, .aload_n 0, 1, [], noM),
  (40, .getfield 11, 3, [8, 0, 2, 33, 1, 0, 251], noM),
  (43, .bipush 32, 2, [0, 32], noM),
  (45, .iload_n 1, 1, [], noM),
  (46, .iadd, 1, [], noM),
  (47, .iconst 0, 1, [0, 0], noM),
  (48, .iastore, 1, [], noM),
  (49, .return_, 1, [], noM)]
set_option maxRecDepth 100000 in
theorem kX8_enter : tabOK mX8_enter 3 tX8_enter = true := by decide +kernel
def tX8_like : List Op := [(0, .aload_n 0, 1, [], noM),
  (1, .getfield 11, 3, [8, 0, 2, 33, 1, 0, 251], noM),
  (4, .iconst 0, 1, [0, 0], noM),
  (5, .iload_n 1, 1, [], noM),
  (6, .iadd, 1, [], noM),
  (7, .iconst 0, 1, [0, 0], noM),
  (8, .bipush 99, 2, [0, 99], noM),
  (10, .aload_n 0, 1, [], noM),
  (11, .iload_n 1, 1, [], noM),
  (12, .invokevirtual 32, 3, [8, 1, 1, 738, 723, 724, 91, 725], mX8_favour),
  (15, .iload_n 2, 1, [], noM),
  (16, .iadd, 1, [], noM),
  (17, .invokestatic 35, 3, [2, 739, 645, 106, 646], noM),
  (20, .invokestatic 41, 3, [1, 740, 648, 106, 649], noM),
  (23, .iastore, 1, [], noM),
  (24, .return_, 1, [], noM)]
set_option maxRecDepth 100000 in
theorem kX8_like : tabOK mX8_like 3 tX8_like = true := by decide +kernel
def tX8_pay : List Op := [(0, .aload_n 0, 1, [], noM),
  (1, .getfield 11, 3, [8, 0, 2, 33, 1, 0, 251], noM),
  (4, .bipush 45, 2, [0, 45], noM),
  (6, .dup2, 1, [], noM),
  (7, .iaload, 1, [], noM),
  (8, .iload_n 2, 1, [], noM),
  (9, .isub, 1, [], noM),
  (10, .iastore, 1, [], noM),
  (11, .aload_n 0, 1, [], noM),
  (12, .getfield 11, 3, [8, 0, 2, 33, 1, 0, 251], noM),
  (15, .bipush 40, 2, [0, 40], noM),
  (17, .iload_n 1, 1, [], noM),
  (18, .iadd, 1, [], noM),
  (19, .dup2, 1, [], noM),
  (20, .iaload, 1, [], noM),
  (21, .iload_n 2, 1, [], noM),
  (22, .iadd, 1, [], noM),
  (23, .iastore, 1, [], noM),
  (24, .return_, 1, [], noM)]
set_option maxRecDepth 100000 in
theorem kX8_pay : tabOK mX8_pay 3 tX8_pay = true := by decide +kernel
def tX8_bits : List Op := [(0, .iconst 0, 1, [0, 0], noM),
  (1, .istore_n 3, 1, [], noM),
  (2, .iconst 0, 1, [0, 0], noM),
  (3, .istore 4, 2, [], noM),
  (5, .iload 4, 2, [], noM),
  (7, .iload_n 2, 1, [], noM),
  (8, .if_icmp .ge 30, 3, [38], noM),
  (11, .iload_n 3, 1, [], noM),
  (12, .aload_n 0, 1, [], noM),
  (13, .iload 4, 2, [], noM),
  (15, .invokevirtual 21, 3, [8, 1, 1, 677, 678, 679, 91, 680], mX8_fate),
  (18, .iload_n 1, 1, [], noM),
  (19, .if_icmp .ne 10, 3, [29], noM),
  (22, .iconst 1, 1, [0, 1], noM),
  (23, .iload 4, 2, [], noM),
  (25, .ishl, 1, [], noM),
  (26, .goto 4, 3, [30], noM),
  (29, .iconst 0, 1, [0, 0], noM),
  (30, .ior, 1, [], noM),
  (31, .istore_n 3, 1, [], noM),
  (32, .iinc 4 1, 3, [0, 1], noM),
  (35, .goto (-30), 3, [5], noM),
  (38, .iload_n 3, 1, [], noM),
  (39, .ireturn, 1, [], noM)]
set_option maxRecDepth 100000 in
theorem kX8_bits : tabOK mX8_bits 0 tX8_bits = true := by decide +kernel
def tX8_favourOf : List Op := [(0, .iconst 0, 1, [0, 0], noM),
  (1, .istore_n 2, 1, [], noM),
  (2, .iconst 0, 1, [0, 0], noM),
  (3, .istore_n 3, 1, [], noM),
  (4, .iload_n 3, 1, [], noM),
  (5, .bipush 8, 2, [0, 8], noM),
  (7, .if_icmp .ge 23, 3, [30], noM),
  (10, .iload_n 2, 1, [], noM),
  (11, .iload_n 1, 1, [], noM),
  (12, .iload_n 3, 1, [], noM),
  (13, .ishr, 1, [], noM),
  (14, .iconst 1, 1, [0, 1], noM),
  (15, .iand, 1, [], noM),
  (16, .aload_n 0, 1, [], noM),
  (17, .iload_n 3, 1, [], noM),
  (18, .invokevirtual 32, 3, [8, 1, 1, 738, 723, 724, 91, 725], mX8_favour),
  (21, .imul, 1, [], noM),
  (22, .iadd, 1, [], noM),
  (23, .istore_n 2, 1, [], noM),
  (24, .iinc 3 1, 3, [0, 1], noM),
  (27, .goto (-23), 3, [4], noM),
  (30, .iload_n 2, 1, [], noM),
  (31, .ireturn, 1, [], noM)]
set_option maxRecDepth 100000 in
theorem kX8_favourOf : tabOK mX8_favourOf 0 tX8_favourOf = true := by decide +kernel
def tX9_append : List Op := [(0, .aload_n 0, 1, [], noM),
  (1, .getfield 15, 3, [9, 1, 0, 0, 0, 0, 123], noM),
  (4, .iconst 4, 1, [0, 4], noM),
  (5, .iadd, 1, [], noM),
  (6, .bipush 80, 2, [0, 80], noM),
  (8, .if_icmp .le 5, 3, [13], noM),
  (11, .iconst 0, 1, [0, 0], noM),
  (12, .ireturn, 1, [], noM),
  (13, .bipush 24, 2, [0, 24], noM),
  (15, .istore_n 2, 1, [], noM),
  (16, .iload_n 2, 1, [], noM),
  (17, .ifCond .lt 35, 3, [52], noM),
  (20, .aload_n 0, 1, [], noM),
  (21, .getfield 11, 3, [9, 0, 2, 34, 0, 0, 122], noM),
  (24, .aload_n 0, 1, [], noM),
  (25, .getfield 15, 3, [9, 1, 0, 0, 0, 0, 123], noM),
  (28, .iload_n 1, 1, [], noM),
  (29, .iload_n 2, 1, [], noM),
  (30, .iushr, 1, [], noM),
  (31, .sipush 255, 3, [0, 255], noM),
  (34, .iand, 1, [], noM),
  (35, .iastore, 1, [], noM),
  (36, .aload_n 0, 1, [], noM),
  (37, .dup, 1, [], noM),
  (38, .getfield 15, 3, [9, 1, 0, 0, 0, 0, 123], noM),
  (41, .iconst 1, 1, [0, 1], noM),
  (42, .iadd, 1, [], noM),
  (43, .putfield 15, 3, [9, 1, 0, 0, 0, 0, 123], noM),
  (46, .iinc 2 (-8), 3, [1, 8], noM),
  (49, .goto (-33), 3, [16], noM),
  (52, .iconst 1, 1, [0, 1], noM),
  (53, .ireturn, 1, [], noM)]
set_option maxRecDepth 100000 in
theorem kX9_append : tabOK mX9_append 1 tX9_append = true := by decide +kernel
def tX9_cut : List Op := [(0, .iload_n 1, 1, [], noM),
  (1, .ifCond .lt 11, 3, [12], noM),
  (4, .iload_n 1, 1, [], noM),
  (5, .aload_n 0, 1, [], noM),
  (6, .getfield 15, 3, [9, 1, 0, 0, 0, 0, 123], noM),
  (9, .if_icmp .le 5, 3, [14], noM),
  (12, .iconst 0, 1, [0, 0], noM),
  (13, .ireturn, 1, [], noM),
  (14, .aload_n 0, 1, [], noM),
  (15, .iload_n 1, 1, [], noM),
  (16, .putfield 15, 3, [9, 1, 0, 0, 0, 0, 123], noM),
  (19, .iconst 1, 1, [0, 1], noM),
  (20, .ireturn, 1, [], noM)]
set_option maxRecDepth 100000 in
theorem kX9_cut : tabOK mX9_cut 1 tX9_cut = true := by decide +kernel
def tX9_clear : List Op := [(0, .aload_n 0, 1, [], noM),
  (1, .iconst 0, 1, [0, 0], noM),
  (2, .putfield 15, 3, [9, 1, 0, 0, 0, 0, 123], noM),
  (5, .return_, 1, [], noM)]
set_option maxRecDepth 100000 in
theorem kX9_clear : tabOK mX9_clear 3 tX9_clear = true := by decide +kernel
def tX9_isEmpty : List Op := [(0, .aload_n 0, 1, [], noM),
  (1, .getfield 15, 3, [9, 1, 0, 0, 0, 0, 123], noM),
  (4, .ifCond .ne 7, 3, [11], noM),
  (7, .iconst 1, 1, [0, 1], noM),
  (8, .goto 4, 3, [12], noM),
  (11, .iconst 0, 1, [0, 0], noM),
  (12, .ireturn, 1, [], noM)]
set_option maxRecDepth 100000 in
theorem kX9_isEmpty : tabOK mX9_isEmpty 1 tX9_isEmpty = true := by decide +kernel
def tX9_put : List Op := [(0, .aload_n 0, 1, [], noM),
  (1, .iconst 0, 1, [0, 0], noM),
  (2, .putfield 15, 3, [9, 1, 0, 0, 0, 0, 123], noM),
  (5, .iconst 0, 1, [0, 0], noM),
  (6, .istore_n 2, 1, [], noM),
  (7, .iload_n 2, 1, [], noM),
  (8, .aload_n 1, 1, [], noM),
  (9, .invokevirtual 19, 3, [90, 0, 1, 381, 382, 383, 96, 384], mJ0_length_8abf5),
  (12, .if_icmp .ge 36, 3, [48], noM),
  (15, .iload_n 2, 1, [], noM),
  (16, .bipush 80, 2, [0, 80], noM),
  (18, .if_icmp .ge 30, 3, [48], noM),
  (21, .aload_n 0, 1, [], noM),
  (22, .getfield 11, 3, [9, 0, 2, 34, 0, 0, 122], noM),
  (25, .iload_n 2, 1, [], noM),
  (26, .aload_n 1, 1, [], noM),
  (27, .iload_n 2, 1, [], noM),
  (28, .invokevirtual 25, 3, [90, 1, 1, 391, 392, 393, 96, 394], mJ0_charAt_5068e),
  (31, .iastore, 1, [], noM),
  (32, .aload_n 0, 1, [], noM),
  (33, .dup, 1, [], noM),
  (34, .getfield 15, 3, [9, 1, 0, 0, 0, 0, 123], noM),
  (37, .iconst 1, 1, [0, 1], noM),
  (38, .iadd, 1, [], noM),
  (39, .putfield 15, 3, [9, 1, 0, 0, 0, 0, 123], noM),
  (42, .iinc 2 1, 3, [0, 1], noM),
  (45, .goto (-38), 3, [7], noM),
  (48, .return_, 1, [], noM)]
set_option maxRecDepth 100000 in
theorem kX9_put : tabOK mX9_put 3 tX9_put = true := by decide +kernel
def tX9_start : List Op := [(0, .aload_n 0, 1, [], noM),
  (1, .iconst 0, 1, [0, 0], noM),
  (2, .putfield 29, 3, [9, 2, 0, 0, 0, 0, 127], noM),
  (5, .aload_n 0, 1, [], noM),
  (6, .iload_n 1, 1, [], noM),
  (7, .putfield 32, 3, [9, 3, 0, 0, 0, 0, 129], noM),
  (10, .return_, 1, [], noM)]
set_option maxRecDepth 100000 in
theorem kX9_start : tabOK mX9_start 3 tX9_start = true := by decide +kernel
def tX9_ended : List Op := [(0, .aload_n 0, 1, [], noM),
  (1, .getfield 29, 3, [9, 2, 0, 0, 0, 0, 127], noM),
  (4, .aload_n 0, 1, [], noM),
  (5, .getfield 15, 3, [9, 1, 0, 0, 0, 0, 123], noM),
  (8, .if_icmp .lt 7, 3, [15], noM),
  (11, .iconst 1, 1, [0, 1], noM),
  (12, .goto 4, 3, [16], noM),
  (15, .iconst 0, 1, [0, 0], noM),
  (16, .ireturn, 1, [], noM)]
set_option maxRecDepth 100000 in
theorem kX9_ended : tabOK mX9_ended 1 tX9_ended = true := by decide +kernel
def tX9_peek : List Op := [(0, .aload_n 0, 1, [], noM),
  (1, .getfield 29, 3, [9, 2, 0, 0, 0, 0, 127], noM),
  (4, .aload_n 0, 1, [], noM),
  (5, .getfield 15, 3, [9, 1, 0, 0, 0, 0, 123], noM),
  (8, .if_icmp .ge 26, 3, [34], noM),
  (11, .aload_n 0, 1, [], noM),
  (12, .getfield 29, 3, [9, 2, 0, 0, 0, 0, 127], noM),
  (15, .aload_n 0, 1, [], noM),
  (16, .getfield 32, 3, [9, 3, 0, 0, 0, 0, 129], noM),
  (19, .if_icmp .ge 15, 3, [34], noM),
  (22, .aload_n 0, 1, [], noM),
  (23, .getfield 11, 3, [9, 0, 2, 34, 0, 0, 122], noM),
  (26, .aload_n 0, 1, [], noM),
  (27, .getfield 29, 3, [9, 2, 0, 0, 0, 0, 127], noM),
  (30, .iaload, 1, [], noM),
  (31, .goto 4, 3, [35], noM),
  (34, .iconst (-1), 1, [1, 1], noM),
  (35, .ireturn, 1, [], noM)]
set_option maxRecDepth 100000 in
theorem kX9_peek : tabOK mX9_peek 0 tX9_peek = true := by decide +kernel
def tX9_next : List Op := [(0, .aload_n 0, 1, [], noM),
  (1, .invokevirtual 35, 3, [9, 0, 1, 445, 446, 447, 85, 448], mX9_peek),
  (4, .istore_n 1, 1, [], noM),
  (5, .aload_n 0, 1, [], noM),
  (6, .dup, 1, [], noM),
  (7, .getfield 29, 3, [9, 2, 0, 0, 0, 0, 127], noM),
  (10, .iconst 1, 1, [0, 1], noM),
  (11, .iadd, 1, [], noM),
  (12, .putfield 29, 3, [9, 2, 0, 0, 0, 0, 127], noM),
  (15, .iload_n 1, 1, [], noM),
  (16, .ireturn, 1, [], noM)]
set_option maxRecDepth 100000 in
theorem kX9_next : tabOK mX9_next 0 tX9_next = true := by decide +kernel
def tX9_take : List Op := [(0, .aload_n 0, 1, [], noM),
  (1, .invokevirtual 35, 3, [9, 0, 1, 445, 446, 447, 85, 448], mX9_peek),
  (4, .iload_n 1, 1, [], noM),
  (5, .if_icmp .eq 5, 3, [10], noM),
  (8, .iconst 0, 1, [0, 0], noM),
  (9, .ireturn, 1, [], noM),
  (10, .aload_n 0, 1, [], noM),
  (11, .dup, 1, [], noM),
  (12, .getfield 29, 3, [9, 2, 0, 0, 0, 0, 127], noM),
  (15, .iconst 1, 1, [0, 1], noM),
  (16, .iadd, 1, [], noM),
  (17, .putfield 29, 3, [9, 2, 0, 0, 0, 0, 127], noM),
  (20, .iconst 1, 1, [0, 1], noM),
  (21, .ireturn, 1, [], noM)]
set_option maxRecDepth 100000 in
theorem kX9_take : tabOK mX9_take 1 tX9_take = true := by decide +kernel
def tX9_takeDigit : List Op := [(0, .aload_n 0, 1, [], noM),
  (1, .invokevirtual 35, 3, [9, 0, 1, 445, 446, 447, 85, 448], mX9_peek),
  (4, .bipush 48, 2, [0, 48], noM),
  (6, .isub, 1, [], noM),
  (7, .istore_n 3, 1, [], noM),
  (8, .iload_n 3, 1, [], noM),
  (9, .iload_n 1, 1, [], noM),
  (10, .if_icmp .lt 8, 3, [18], noM),
  (13, .iload_n 3, 1, [], noM),
  (14, .iload_n 2, 1, [], noM),
  (15, .if_icmp .le 5, 3, [20], noM),
  (18, .iconst (-1), 1, [1, 1], noM),
  (19, .ireturn, 1, [], noM),
  (20, .aload_n 0, 1, [], noM),
  (21, .dup, 1, [], noM),
  (22, .getfield 29, 3, [9, 2, 0, 0, 0, 0, 127], noM),
  (25, .iconst 1, 1, [0, 1], noM),
  (26, .iadd, 1, [], noM),
  (27, .putfield 29, 3, [9, 2, 0, 0, 0, 0, 127], noM),
  (30, .iload_n 3, 1, [], noM),
  (31, .ireturn, 1, [], noM)]
set_option maxRecDepth 100000 in
theorem kX9_takeDigit : tabOK mX9_takeDigit 0 tX9_takeDigit = true := by decide +kernel
def tX9_takeNumber : List Op := [(0, .iconst (-1), 1, [1, 1], noM),
  (1, .istore_n 2, 1, [], noM),
  (2, .iconst 0, 1, [0, 0], noM),
  (3, .istore_n 3, 1, [], noM),
  (4, .iload_n 3, 1, [], noM),
  (5, .iload_n 1, 1, [], noM),
  (6, .if_icmp .ge 44, 3, [50], noM),
  (9, .aload_n 0, 1, [], noM),
  (10, .iconst 0, 1, [0, 0], noM),
  (11, .bipush 9, 2, [0, 9], noM),
  (13, .invokevirtual 38, 3, [9, 2, 1, 458, 459, 460, 85, 461], mX9_takeDigit),
  (16, .istore 4, 2, [], noM),
  (18, .iload 4, 2, [], noM),
  (20, .iconst (-1), 1, [1, 1], noM),
  (21, .if_icmp .ne 6, 3, [27], noM),
  (24, .goto 26, 3, [50], noM),
  (27, .iload_n 3, 1, [], noM),
  (28, .ifCond .ne 8, 3, [36], noM),
  (31, .iload 4, 2, [], noM),
  (33, .goto 10, 3, [43], noM),
  (36, .iload_n 2, 1, [], noM),
  (37, .bipush 10, 2, [0, 10], noM),
  (39, .imul, 1, [], noM),
  (40, .iload 4, 2, [], noM),
  (42, .iadd, 1, [], noM),
  (43, .istore_n 2, 1, [], noM),
  (44, .iinc 3 1, 3, [0, 1], noM),
  (47, .goto (-43), 3, [4], noM),
  (50, .iload_n 2, 1, [], noM),
  (51, .ireturn, 1, [], noM)]
set_option maxRecDepth 100000 in
theorem kX9_takeNumber : tabOK mX9_takeNumber 0 tX9_takeNumber = true := by decide +kernel
def tX10_clear : List Op := [(0, .aload_n 0, 1, [], noM),
  (1, .iconst 0, 1, [0, 0], noM),
  (2, .putfield 21, 3, [10, 4, 0, 0, 0, 0, 338], noM),
  (5, .iconst 0, 1, [0, 0], noM),
  (6, .istore_n 1, 1, [], noM),
  (7, .iload_n 1, 1, [], noM),
  (8, .bipush 8, 2, [0, 8], noM),
  (10, .if_icmp .ge 16, 3, [26], noM),
  (13, .aload_n 0, 1, [], noM),
  (14, .getfield 9, 3, [10, 0, 2, 35, 0, 0, 333], noM),
  (17, .iload_n 1, 1, [], noM),
  (18, .iconst 0, 1, [0, 0], noM),
  (19, .iastore, 1, [], noM),
  (20, .iinc 1 1, 3, [0, 1], noM),
  (23, .goto (-16), 3, [7], noM),
  (26, .return_, 1, [], noM)]
set_option maxRecDepth 100000 in
theorem kX10_clear : tabOK mX10_clear 3 tX10_clear = true := by decide +kernel
def tX10_isAbove : List Op := [(0, .aload_n 0, 1, [], noM),
  (1, .getfield 9, 3, [10, 0, 2, 35, 0, 0, 333], noM),
  (4, .iload_n 2, 1, [], noM),
  (5, .iaload, 1, [], noM),
  (6, .iload_n 1, 1, [], noM),
  (7, .ishr, 1, [], noM),
  (8, .iconst 1, 1, [0, 1], noM),
  (9, .iand, 1, [], noM),
  (10, .iconst 1, 1, [0, 1], noM),
  (11, .if_icmp .ne 7, 3, [18], noM),
  (14, .iconst 1, 1, [0, 1], noM),
  (15, .goto 4, 3, [19], noM),
  (18, .iconst 0, 1, [0, 0], noM),
  (19, .ireturn, 1, [], noM)]
set_option maxRecDepth 100000 in
theorem kX10_isAbove : tabOK mX10_isAbove 1 tX10_isAbove = true := by decide +kernel
def tX10_scratch : List Op := [(0, .aload_n 0, 1, [], noM),
  (1, .getfield 9, 3, [10, 0, 2, 35, 0, 0, 333], noM),
  (4, .iload_n 1, 1, [], noM),
  (5, .iaload, 1, [], noM),
  (6, .iconst 1, 1, [0, 1], noM),
  (7, .iload_n 1, 1, [], noM),
  (8, .ishl, 1, [], noM),
  (9, .ior, 1, [], noM),
  (10, .istore_n 3, 1, [], noM),
  (11, .iconst 0, 1, [0, 0], noM),
  (12, .istore 4, 2, [], noM),
  (14, .iload 4, 2, [], noM),
  (16, .bipush 8, 2, [0, 8], noM),
  (18, .if_icmp .ge 36, 3, [54], noM),
  (21, .iload 4, 2, [], noM),
  (23, .iload_n 2, 1, [], noM),
  (24, .if_icmp .eq 13, 3, [37], noM),
  (27, .aload_n 0, 1, [], noM),
  (28, .iload_n 2, 1, [], noM),
  (29, .iload 4, 2, [], noM),
  (31, .invokevirtual 25, 3, [10, 2, 1, 976, 969, 970, 94, 971], mX10_isAbove),
  (34, .ifCond .eq 14, 3, [48], noM),
  (37, .aload_n 0, 1, [], noM),
  (38, .getfield 9, 3, [10, 0, 2, 35, 0, 0, 333], noM),
  (41, .iload 4, 2, [], noM),
  (43, .dup2, 1, [], noM),
  (44, .iaload, 1, [], noM),
  (45, .iload_n 3, 1, [], noM),
  (46, .ior, 1, [], noM),
  (47, .iastore, 1, [], noM),
  (48, .iinc 4 1, 3, [0, 1], noM),
  (51, .goto (-37), 3, [14], noM),
  (54, .aload_n 0, 1, [], noM),
  (55, .dup, 1, [], noM),
  (56, .getfield 21, 3, [10, 4, 0, 0, 0, 0, 338], noM),
  (59, .iconst 1, 1, [0, 1], noM),
  (60, .iadd, 1, [], noM),
  (61, .putfield 21, 3, [10, 4, 0, 0, 0, 0, 338], noM),
  (64, .return_, 1, [], noM)]
set_option maxRecDepth 100000 in
theorem kX10_scratch : tabOK mX10_scratch 3 tX10_scratch = true := by decide +kernel
def tX10_countBelow : List Op := [(0, .iconst 0, 1, [0, 0], noM),
  (1, .istore_n 2, 1, [], noM),
  (2, .iconst 0, 1, [0, 0], noM),
  (3, .istore_n 3, 1, [], noM),
  (4, .iload_n 3, 1, [], noM),
  (5, .bipush 8, 2, [0, 8], noM),
  (7, .if_icmp .ge 26, 3, [33], noM),
  (10, .iload_n 2, 1, [], noM),
  (11, .aload_n 0, 1, [], noM),
  (12, .iload_n 1, 1, [], noM),
  (13, .iload_n 3, 1, [], noM),
  (14, .invokevirtual 25, 3, [10, 2, 1, 976, 969, 970, 94, 971], mX10_isAbove),
  (17, .ifCond .eq 7, 3, [24], noM),
  (20, .iconst 1, 1, [0, 1], noM),
  (21, .goto 4, 3, [25], noM),
  (24, .iconst 0, 1, [0, 0], noM),
  (25, .iadd, 1, [], noM),
  (26, .istore_n 2, 1, [], noM),
  (27, .iinc 3 1, 3, [0, 1], noM),
  (30, .goto (-26), 3, [4], noM),
  (33, .iload_n 2, 1, [], noM),
  (34, .ireturn, 1, [], noM)]
set_option maxRecDepth 100000 in
theorem kX10_countBelow : tabOK mX10_countBelow 0 tX10_countBelow = true := by decide +kernel
def tX10_canFollow : List Op := [(0, .iload_n 2, 1, [], noM),
  (1, .iload_n 1, 1, [], noM),
  (2, .ishr, 1, [], noM),
  (3, .iconst 1, 1, [0, 1], noM),
  (4, .iand, 1, [], noM),
  (5, .ifCond .ne 20, 3, [25], noM),
  (8, .aload_n 0, 1, [], noM),
  (9, .getfield 9, 3, [10, 0, 2, 35, 0, 0, 333], noM),
  (12, .iload_n 1, 1, [], noM),
  (13, .iaload, 1, [], noM),
  (14, .iload_n 2, 1, [], noM),
  (15, .iconst (-1), 1, [1, 1], noM),
  (16, .ixor, 1, [], noM),
  (17, .iand, 1, [], noM),
  (18, .ifCond .ne 7, 3, [25], noM),
  (21, .iconst 1, 1, [0, 1], noM),
  (22, .goto 4, 3, [26], noM),
  (25, .iconst 0, 1, [0, 0], noM),
  (26, .ireturn, 1, [], noM)]
set_option maxRecDepth 100000 in
theorem kX10_canFollow : tabOK mX10_canFollow 1 tX10_canFollow = true := by decide +kernel
def tX10_leastNext : List Op := [(0, .iconst 0, 1, [0, 0], noM),
  (1, .istore_n 2, 1, [], noM),
  (2, .iload_n 2, 1, [], noM),
  (3, .bipush 8, 2, [0, 8], noM),
  (5, .if_icmp .ge 20, 3, [25], noM),
  (8, .aload_n 0, 1, [], noM),
  (9, .iload_n 2, 1, [], noM),
  (10, .iload_n 1, 1, [], noM),
  (11, .invokevirtual 29, 3, [10, 2, 1, 993, 995, 21, 94, 996], mX10_canFollow),
  (14, .ifCond .eq 5, 3, [19], noM),
  (17, .iload_n 2, 1, [], noM),
  (18, .ireturn, 1, [], noM),
  (19, .iinc 2 1, 3, [0, 1], noM),
  (22, .goto (-20), 3, [2], noM),
  (25, .iconst 0, 1, [0, 0], noM),
  (26, .ireturn, 1, [], noM)]
set_option maxRecDepth 100000 in
theorem kX10_leastNext : tabOK mX10_leastNext 0 tX10_leastNext = true := by decide +kernel
def tX10_tally : List Op := [(0, .aload_n 0, 1, [], noM),
  (1, .iload_n 1, 1, [], noM),
  (2, .putfield 32, 3, [10, 3, 0, 0, 0, 0, 337], noM),
  (5, .iconst 1, 1, [0, 1], noM),
  (6, .iload_n 1, 1, [], noM),
  (7, .ishl, 1, [], noM),
  (8, .iconst 1, 1, [0, 1], noM),
  (9, .isub, 1, [], noM),
  (10, .istore_n 2, 1, [], noM),
  (11, .iconst 0, 1, [0, 0], noM),
  (12, .istore_n 3, 1, [], noM),
  (13, .iload_n 3, 1, [], noM),
  (14, .iload_n 2, 1, [], noM),
  (15, .if_icmp .gt 40, 3, [55], noM),
  (18, .aload_n 0, 1, [], noM),
  (19, .getfield 15, 3, [10, 1, 2, 36, 0, 0, 335], noM),
  (22, .iload_n 3, 1, [], noM),
  (23, .iload_n 3, 1, [], noM),
  (24, .ifCond .ne 7, 3, [31], noM),
  (27, .iconst 1, 1, [0, 1], noM),
  (28, .goto 4, 3, [32], noM),
  (31, .iconst 0, 1, [0, 0], noM),
  (32, .iastore, 1, [], noM),
  (33, .aload_n 0, 1, [], noM),
  (34, .getfield 18, 3, [10, 2, 2, 37, 0, 0, 336], noM),
  (37, .iload_n 3, 1, [], noM),
  (38, .iload_n 3, 1, [], noM),
  (39, .iload_n 2, 1, [], noM),
  (40, .if_icmp .ne 7, 3, [47], noM),
  (43, .iconst 1, 1, [0, 1], noM),
  (44, .goto 4, 3, [48], noM),
  (47, .iconst 0, 1, [0, 0], noM),
  (48, .iastore, 1, [], noM),
  (49, .iinc 3 1, 3, [0, 1], noM),
  (52, .goto (-39), 3, [13], noM),
  (55, .iconst 0, 1, [0, 0], noM),
  (56, .istore_n 3, 1, [], noM),
  (57, .iload_n 3, 1, [], noM),
  (58, .iload_n 2, 1, [], noM),
  (59, .if_icmp .gt 54, 3, [113], noM),
  (62, .iconst 0, 1, [0, 0], noM),
  (63, .istore 4, 2, [], noM),
  (65, .iload 4, 2, [], noM),
  (67, .iload_n 1, 1, [], noM),
  (68, .if_icmp .ge 39, 3, [107], noM),
  (71, .aload_n 0, 1, [], noM),
  (72, .iload 4, 2, [], noM),
  (74, .iload_n 3, 1, [], noM),
  (75, .invokevirtual 29, 3, [10, 2, 1, 993, 995, 21, 94, 996], mX10_canFollow),
  (78, .ifCond .eq 23, 3, [101], noM),
  (81, .aload_n 0, 1, [], noM),
  (82, .getfield 15, 3, [10, 1, 2, 36, 0, 0, 335], noM),
  (85, .iload_n 3, 1, [], noM),
  (86, .iconst 1, 1, [0, 1], noM),
  (87, .iload 4, 2, [], noM),
  (89, .ishl, 1, [], noM),
  (90, .ior, 1, [], noM),
  (91, .dup2, 1, [], noM),
  (92, .iaload, 1, [], noM),
  (93, .aload_n 0, 1, [], noM),
  (94, .getfield 15, 3, [10, 1, 2, 36, 0, 0, 335], noM),
  (97, .iload_n 3, 1, [], noM),
  (98, .iaload, 1, [], noM),
  (99, .iadd, 1, [], noM),
  (100, .iastore, 1, [], noM),
  (101, .iinc 4 1, 3, [0, 1], noM),
  (104, .goto (-39), 3, [65], noM),
  (107, .iinc 3 1, 3, [0, 1], noM),
  (110, .goto (-53), 3, [57], noM),
  (113, .iload_n 2, 1, [], noM),
  (114, .istore_n 3, 1, [], noM),
  (115, .iload_n 3, 1, [], noM),
  (116, .ifCond .lt 54, 3, [170], noM),
  (119, .iconst 0, 1, [0, 0], noM),
  (120, .istore 4, 2, [], noM),
  (122, .iload 4, 2, [], noM),
  (124, .iload_n 1, 1, [], noM),
  (125, .if_icmp .ge 39, 3, [164], noM),
  (128, .aload_n 0, 1, [], noM),
  (129, .iload 4, 2, [], noM),
  (131, .iload_n 3, 1, [], noM),
  (132, .invokevirtual 29, 3, [10, 2, 1, 993, 995, 21, 94, 996], mX10_canFollow),
  (135, .ifCond .eq 23, 3, [158], noM),
  (138, .aload_n 0, 1, [], noM),
  (139, .getfield 18, 3, [10, 2, 2, 37, 0, 0, 336], noM),
  (142, .iload_n 3, 1, [], noM),
  (143, .dup2, 1, [], noM),
  (144, .iaload, 1, [], noM),
  (145, .aload_n 0, 1, [], noM),
  (146, .getfield 18, 3, [10, 2, 2, 37, 0, 0, 336], noM),
  (149, .iload_n 3, 1, [], noM),
  (150, .iconst 1, 1, [0, 1], noM),
  (151, .iload 4, 2, [], noM),
  (153, .ishl, 1, [], noM),
  (154, .ior, 1, [], noM),
  (155, .iaload, 1, [], noM),
  (156, .iadd, 1, [], noM),
  (157, .iastore, 1, [], noM),
  (158, .iinc 4 1, 3, [0, 1], noM),
  (161, .goto (-39), 3, [122], noM),
  (164, .iinc 3 (-1), 3, [1, 1], noM),
  (167, .goto (-52), 3, [115], noM),
  (170, .aload_n 0, 1, [], noM),
  (171, .getfield 15, 3, [10, 1, 2, 36, 0, 0, 335], noM),
  (174, .iload_n 2, 1, [], noM),
  (175, .iaload, 1, [], noM),
  (176, .ireturn, 1, [], noM)]
set_option maxRecDepth 100000 in
theorem kX10_tally : tabOK mX10_tally 0 tX10_tally = true := by decide +kernel
def tX10_ordersAt : List Op := [(0, .iconst 0, 1, [0, 0], noM),
  (1, .istore_n 3, 1, [], noM),
  (2, .iconst 0, 1, [0, 0], noM),
  (3, .istore 4, 2, [], noM),
  (5, .iload 4, 2, [], noM),
  (7, .iconst 1, 1, [0, 1], noM),
  (8, .aload_n 0, 1, [], noM),
  (9, .getfield 32, 3, [10, 3, 0, 0, 0, 0, 337], noM),
  (12, .ishl, 1, [], noM),
  (13, .if_icmp .ge 50, 3, [63], noM),
  (16, .iload 4, 2, [], noM),
  (18, .invokestatic 35, 3, [0, 1, 1, 1009, 605, 101, 606], mJ6_bitCount_0f7a4),
  (21, .iload_n 2, 1, [], noM),
  (22, .if_icmp .ne 35, 3, [57], noM),
  (25, .aload_n 0, 1, [], noM),
  (26, .iload_n 1, 1, [], noM),
  (27, .iload 4, 2, [], noM),
  (29, .invokevirtual 29, 3, [10, 2, 1, 993, 995, 21, 94, 996], mX10_canFollow),
  (32, .ifCond .eq 25, 3, [57], noM),
  (35, .iload_n 3, 1, [], noM),
  (36, .aload_n 0, 1, [], noM),
  (37, .getfield 15, 3, [10, 1, 2, 36, 0, 0, 335], noM),
  (40, .iload 4, 2, [], noM),
  (42, .iaload, 1, [], noM),
  (43, .aload_n 0, 1, [], noM),
  (44, .getfield 18, 3, [10, 2, 2, 37, 0, 0, 336], noM),
  (47, .iload 4, 2, [], noM),
  (49, .iconst 1, 1, [0, 1], noM),
  (50, .iload_n 1, 1, [], noM),
  (51, .ishl, 1, [], noM),
  (52, .ior, 1, [], noM),
  (53, .iaload, 1, [], noM),
  (54, .imul, 1, [], noM),
  (55, .iadd, 1, [], noM),
  (56, .istore_n 3, 1, [], noM),
  (57, .iinc 4 1, 3, [0, 1], noM),
  (60, .goto (-55), 3, [5], noM),
  (63, .iload_n 3, 1, [], noM),
  (64, .ireturn, 1, [], noM)]
set_option maxRecDepth 100000 in
theorem kX10_ordersAt : tabOK mX10_ordersAt 0 tX10_ordersAt = true := by decide +kernel
def tX10_ordersWithAbove : List Op := [(0, .iconst 0, 1, [0, 0], noM),
  (1, .istore_n 3, 1, [], noM),
  (2, .iconst 0, 1, [0, 0], noM),
  (3, .istore 4, 2, [], noM),
  (5, .iload 4, 2, [], noM),
  (7, .iconst 1, 1, [0, 1], noM),
  (8, .aload_n 0, 1, [], noM),
  (9, .getfield 32, 3, [10, 3, 0, 0, 0, 0, 337], noM),
  (12, .ishl, 1, [], noM),
  (13, .if_icmp .ge 51, 3, [64], noM),
  (16, .iload 4, 2, [], noM),
  (18, .iload_n 1, 1, [], noM),
  (19, .ishr, 1, [], noM),
  (20, .iconst 1, 1, [0, 1], noM),
  (21, .iand, 1, [], noM),
  (22, .iconst 1, 1, [0, 1], noM),
  (23, .if_icmp .ne 35, 3, [58], noM),
  (26, .aload_n 0, 1, [], noM),
  (27, .iload_n 2, 1, [], noM),
  (28, .iload 4, 2, [], noM),
  (30, .invokevirtual 29, 3, [10, 2, 1, 993, 995, 21, 94, 996], mX10_canFollow),
  (33, .ifCond .eq 25, 3, [58], noM),
  (36, .iload_n 3, 1, [], noM),
  (37, .aload_n 0, 1, [], noM),
  (38, .getfield 15, 3, [10, 1, 2, 36, 0, 0, 335], noM),
  (41, .iload 4, 2, [], noM),
  (43, .iaload, 1, [], noM),
  (44, .aload_n 0, 1, [], noM),
  (45, .getfield 18, 3, [10, 2, 2, 37, 0, 0, 336], noM),
  (48, .iload 4, 2, [], noM),
  (50, .iconst 1, 1, [0, 1], noM),
  (51, .iload_n 2, 1, [], noM),
  (52, .ishl, 1, [], noM),
  (53, .ior, 1, [], noM),
  (54, .iaload, 1, [], noM),
  (55, .imul, 1, [], noM),
  (56, .iadd, 1, [], noM),
  (57, .istore_n 3, 1, [], noM),
  (58, .iinc 4 1, 3, [0, 1], noM),
  (61, .goto (-56), 3, [5], noM),
  (64, .iload_n 3, 1, [], noM),
  (65, .ireturn, 1, [], noM)]
set_option maxRecDepth 100000 in
theorem kX10_ordersWithAbove : tabOK mX10_ordersWithAbove 0 tX10_ordersWithAbove = true := by decide +kernel
def tJ6_bitCount_0f7a4 : List Op := [(0, .iload_n 0, 1, [], noM),
  (1, .iload_n 0, 1, [], noM),
  (2, .iconst 1, 1, [0, 1], noM),
  (3, .iushr, 1, [], noM),
  (4, .ldc_w 265, 3, [0, 1431655765, 607], noM),
  (7, .iand, 1, [], noM),
  (8, .isub, 1, [], noM),
  (9, .istore_n 0, 1, [], noM),
  (10, .iload_n 0, 1, [], noM),
  (11, .ldc_w 266, 3, [0, 858993459, 608], noM),
  (14, .iand, 1, [], noM),
  (15, .iload_n 0, 1, [], noM),
  (16, .iconst 2, 1, [0, 2], noM),
  (17, .iushr, 1, [], noM),
  (18, .ldc_w 266, 3, [0, 858993459, 608], noM),
  (21, .iand, 1, [], noM),
  (22, .iadd, 1, [], noM),
  (23, .istore_n 0, 1, [], noM),
  (24, .iload_n 0, 1, [], noM),
  (25, .iload_n 0, 1, [], noM),
  (26, .iconst 4, 1, [0, 4], noM),
  (27, .iushr, 1, [], noM),
  (28, .iadd, 1, [], noM),
  (29, .ldc_w 267, 3, [0, 252645135, 609], noM),
  (32, .iand, 1, [], noM),
  (33, .istore_n 0, 1, [], noM),
  (34, .iload_n 0, 1, [], noM),
  (35, .iload_n 0, 1, [], noM),
  (36, .bipush 8, 2, [0, 8], noM),
  (38, .iushr, 1, [], noM),
  (39, .iadd, 1, [], noM),
  (40, .istore_n 0, 1, [], noM),
  (41, .iload_n 0, 1, [], noM),
  (42, .iload_n 0, 1, [], noM),
  (43, .bipush 16, 2, [0, 16], noM),
  (45, .iushr, 1, [], noM),
  (46, .iadd, 1, [], noM),
  (47, .istore_n 0, 1, [], noM),
  (48, .iload_n 0, 1, [], noM),
  (49, .bipush 63, 2, [0, 63], noM),
  (51, .iand, 1, [], noM),
  (52, .ireturn, 1, [], noM)]
set_option maxRecDepth 100000 in
theorem kJ6_bitCount_0f7a4 : tabOK mJ6_bitCount_0f7a4 0 tJ6_bitCount_0f7a4 = true := by decide +kernel
end
section
/-! the two worlds are closed -/
def wfB (al : List Ad) (a : Ad) : Bool := decide (a ∈ al) || (a.1 == 90 && Nat.blt a.2 3)
def okA (al : List Ad) (a : Ad) : Bool := !(a.1 == 90) && !(a.1 == 43 && a.2 == 7) && (match shp a.1 with
  | .inl fds => (List.range fds.length).all (fun j => match fds[j]? with
    | some (t, x, y, z) => (match t with
      | 2 => wfB al (x, match y with
        | 0 => z
        | _ => a.2)
      | 0 => true
      | 1 => true
      | _ => a.2 == 0 && decide (slo x = (a.1, j)))
    | none => true)
  | .inr q => (!(q.1 == 1) || a.2 == 0) && (Nat.blt q.1 4 || (List.range (aln q a.2)).all (fun i => decide ((q.2.2.2.1, ein q a.2 i) ∈ al))))
theorem or3 {a b : Bool} (h : (a || b) = true) : a = true ∨ b = true := by rwa [Bool.or_eq_true] at h
theorem okA_ok {al : List Ad} (hn : al.Nodup) (h : al.all (okA al) = true) : Okal al := by
  have h1 : ∀ a, a ∈ al → okA al a = true := List.all_eq_true.mp h
  refine ⟨hn, fun a ha => ?_, fun a ha => ?_⟩
  · have h2 := h1 a ha
    unfold okA at h2
    obtain ⟨h2, h3⟩ := and3 h2
    obtain ⟨h4, h5⟩ := and3 h2
    refine ⟨by simpa using h4, fun e1 e2 => ?_, fun q e hq => ?_, fun fds e j fd hf h3' => ?_⟩
    · simp [e1, e2] at h5
    · rw [e] at h3
      dsimp only at h3
      obtain ⟨h6, -⟩ := and3 h3
      simpa [hq] using h6
    · rw [e] at h3
      dsimp only at h3
      have h6 := List.all_eq_true.mp h3 j (List.mem_range.mpr (List.getElem?_eq_some_iff.mp hf).1)
      rw [hf] at h6
      obtain ⟨t, x, y, z⟩ := fd
      dsimp only at h6 h3' ⊢
      match t, h3', h6 with
      | t + 3, _, h6 =>
        obtain ⟨h7, h8⟩ := and3 h6
        exact ⟨by simpa using h7, of_decide_eq_true h8⟩
      | 0, h3', _ => omega
      | 1, h3', _ => omega
      | 2, h3', _ => omega
  · have h2 := h1 a ha
    unfold okA at h2
    obtain ⟨h2, h3⟩ := and3 h2
    refine ⟨fun fds e fd hf hfd => ?_, fun q e hq i hi => ?_⟩
    · rw [e] at h3
      dsimp only at h3
      obtain ⟨j, hj⟩ := List.getElem?_of_mem hf
      have h6 := List.all_eq_true.mp h3 j (List.mem_range.mpr (List.getElem?_eq_some_iff.mp hj).1)
      rw [hj] at h6
      obtain ⟨t, x, y, z⟩ := fd
      cases hfd
      dsimp only at h6
      have h7 := h6
      intro b hb
      cases hb
      rcases or3 h7 with h7 | h7
      · exact Or.inl (of_decide_eq_true h7)
      · obtain ⟨h8, h9⟩ := and3 h7
        exact Or.inr ⟨by simpa using h8, blt_ok h9⟩
    · rw [e] at h3
      dsimp only at h3
      obtain ⟨-, h6⟩ := and3 h3
      rw [Bool.or_eq_true] at h6
      rcases h6 with h6 | h6
      · exact absurd (blt_ok h6) (by omega)
      · exact of_decide_eq_true (List.all_eq_true.mp h6 i (List.mem_range.mpr hi))
set_option maxRecDepth 100000 in
theorem okC : Okal alC := okA_ok (by decide +kernel) (by decide +kernel)
set_option maxRecDepth 100000 in
theorem okM : Okal alM := okA_ok (by decide +kernel) (by decide +kernel)
end
section
/-! what lies behind an array's end is nothing -/
def Eqv (al : List Ad) (h h' : Hp) : Prop := (∀ a, a ∈ al → ∀ q, shp a.1 = .inr q → ∀ j, j < aln q a.2 → h.1 a.1 a.2 j = h'.1 a.1 a.2 j ∧ h.2.1 a.1 j = h'.2.1 a.1 j) ∧ (∀ a, a ∈ al → ∀ fds, shp a.1 = .inl fds → ∀ j, j < fds.length → h.1 a.1 a.2 j = h'.1 a.1 a.2 j) ∧ h'.2.2 = h.2.2
theorem arrV_cong {cI : ClassId} {N : Nat} {f g : Nat → Value} (e : ∀ j, j < N → f j = g j) : arrV cI N f = arrV cI N g := by
  unfold arrV
  congr 1
  congr 1
  funext j
  exact e j.val j.isLt
theorem vp_eqv_ {al : List Ad} {h h' : Hp} {D : va_G} {cA : Nat → ClassId} {tr : Ad → Nat} {H : Heap} (e : Eqv al h h') (hP : va_P D vwCl (wof cA tr h al) H) : va_P D vwCl (wof cA tr h' al) H := by
  intro k q hq
  unfold wof at hq
  rw [List.getElem?_map] at hq
  cases ha : al[k]? with
  | none => rw [ha] at hq; cases hq
  | some a =>
    rw [ha] at hq
    cases hq
    have hal := List.mem_of_getElem? ha
    have h0 := hP k _ (wof_at ha)
    show va_at D vwCl (tr a, cellOf cA tr h' a) H
    cases es : shp a.1 with
    | inl fds =>
      rw [cell_obj es] at h0 ⊢
      have e1 : fds.mapIdx (fun k fd => rfv tr h a k fd) = fds.mapIdx (fun k fd => rfv tr h' a k fd) := by
        apply List.ext_getElem?
        intro j
        rw [List.getElem?_mapIdx, List.getElem?_mapIdx]
        cases hf : fds[j]? with
        | none => rfl
        | some fd => exact congrArg some (rfv_cong (e.2.1 a hal fds es j (List.getElem?_eq_some_iff.mp hf).1) e.2.2.symm)
      rw [← e1]
      exact h0
    | inr q =>
      rw [cell_arr es] at h0 ⊢
      have h1 : H[tr a]? = some (vp_cell (cA q.1) (aln q a.2, acon tr h a q)) := h0
      show H[tr a]? = some (vp_cell (cA q.1) (aln q a.2, acon tr h' a q))
      rw [h1]
      congr 1
      have e1 := e.1 a hal q es
      by_cases c : q.1 = 0 ∨ q.1 = 2 ∨ q.1 = 3
      · rw [acon_i c, acon_i c]
        rw [vp_cell_i, vp_cell_i]
        exact arrV_cong (fun j hj => congrArg Value.int (e1 j hj).1)
      · by_cases c1 : q.1 = 1
        · rw [acon_l c1, acon_l c1]
          rw [vp_cell_l, vp_cell_l]
          exact arrV_cong (fun j hj => congrArg Value.long (e1 j hj).2)
        · have e2 : acon tr h a q = acon tr h' a q := by
            obtain ⟨t, r⟩ := q
            match t, c, c1 with
            | 0, c, _ => exact absurd (Or.inl rfl) c
            | 1, _, c1 => exact absurd rfl c1
            | 2, c, _ => exact absurd (Or.inr (Or.inl rfl)) c
            | 3, c, _ => exact absurd (Or.inr (Or.inr rfl)) c
            | t + 4, _, _ => rfl
          rw [e2]
theorem wp_eqv {al : List Ad} {M : MT} {k : Nat} {P : AV → Hp → Prop} {pc : Nat} {lv : List (Option AV)} {st : List AV} {h h' : Hp} (e : Eqv al h h') (hw : WP al M k P pc lv st h') : WP al M k P pc lv st h := by
  intro p l e' s m args below meth c D cA tr B H locs ls hP hS hwf0 hl hs
  refine hw p l e' s m args below meth c D cA tr B H locs ls (vp_eqv_ e hP) hS ?_ hl hs
  unfold hwf at hwf0 ⊢
  rw [e.2.2]
  exact hwf0
theorem eqv_V {al : List Ad} {h : Hp} {kd i : Nat} {q : Aq} {f g : Nat → Int32} (e : shp kd = .inr q) (hfg : ∀ j, j < aln q i → f j = g j) : Eqv al (sV h kd i f) (sV h kd i g) := by
  refine ⟨fun a _ q' e' j hj => ⟨?_, rfl⟩, fun a _ fds e' j _ => ?_, rfl⟩
  · by_cases c : a = (kd, i)
    · subst c
      cases e.symm.trans e'
      rw [sV_same, sV_same]
      exact hfg j hj
    · rw [sV_ne c, sV_ne c]
  · by_cases c : a = (kd, i)
    · subst c
      cases e.symm.trans e'
    · rw [sV_ne c, sV_ne c]
theorem eqv_hwf {al : List Ad} {h h' : Hp} (e : Eqv al h h') (w : hwf al h) : hwf al h' := by
  unfold hwf at w ⊢
  rw [e.2.2]
  exact w
/-- a weaker end -/
theorem ct_postE {al : List Ad} {M : MT} {k : Nat} {As : List AV} {h : Hp} {P P' : AV → Hp → Prop} (hc : Ct al M k As h P) (hp : ∀ v h', P v h' → ∃ h2, Eqv al h' h2 ∧ P' v h2) : Ct al M k As h P' := by
  intro l D cA tr h1 h2 h3 p e ha hb hk s m args below hf happ hP hT
  obtain ⟨n, o, q1, q2, q3, ⟨⟨v, h', hp0, ho, hP1, hw1, hv1⟩, hF⟩, L, hL1, hL2⟩ := hc l D cA tr h1 h2 h3 p e ha hb hk s m args below hf happ hP hT
  obtain ⟨h2, he, hp2⟩ := hp v h' hp0
  exact ⟨n, o, q1, q2, q3, ⟨⟨v, h2, hp2, ho, vp_eqv_ he hP1, eqv_hwf he hw1, hv1⟩, hF⟩, L, hL1, hL2⟩
theorem eqv_rf {al : List Ad} {h : Hp} : Eqv al h h := ⟨fun _ _ _ _ _ _ => ⟨rfl, rfl⟩, fun _ _ _ _ _ _ => rfl, rfl⟩
theorem ct_post {al : List Ad} {M : MT} {k : Nat} {As : List AV} {h : Hp} {P P' : AV → Hp → Prop} (hc : Ct al M k As h P) (hp : ∀ v h', P v h' → P' v h') : Ct al M k As h P' := ct_postE hc (fun v h' q => ⟨h', eqv_rf, hp v h' q⟩)
theorem loop_up {X : Nat → Prop} (n : Nat) (he : X n) (hs : ∀ i, i < n → X (i + 1) → X i) : ∀ i, i ≤ n → X i := by
  intro i hi
  obtain ⟨d, hd⟩ : ∃ d, n = i + d := ⟨n - i, by omega⟩
  induction d generalizing i with
  | zero => rw [Nat.add_zero] at hd; subst hd; exact he
  | succ d ih => exact hs i (by omega) (ih (i + 1) (by omega) (by omega))
/-! reading behind writes -/
theorem rdX {h : Hp} {k i j : Nat} {x : Int32} {k' i' j' : Nat} : (sX h k i j x).1 k' i' j' = if k' = k ∧ i' = i ∧ j' = j then x else h.1 k' i' j' := by
  unfold sX sV
  dsimp only
  by_cases c : k' = k ∧ i' = i
  · obtain ⟨rfl, rfl⟩ := c
    by_cases cj : j' = j
    · subst cj
      simp [upd]
    · simp [upd, cj]
  · rw [if_neg c, if_neg (fun q => c ⟨q.1, q.2.1⟩)]
theorem rdV {h : Hp} {k i : Nat} {f : Nat → Int32} {k' i' : Nat} : (sV h k i f).1 k' i' = if k' = k ∧ i' = i then f else h.1 k' i' := rfl
theorem rdVj {h : Hp} {k i : Nat} {f : Nat → Int32} {k' i' j' : Nat} : (sV h k i f).1 k' i' j' = if k' = k ∧ i' = i then f j' else h.1 k' i' j' := by
  unfold sV; dsimp only; split <;> rfl
theorem rdD {h : Hp} {x i : Nat} : (sD h x i).1 = h.1 := rfl
theorem rdL {h : Hp} {k j : Nat} {x : Int64} : (sL h k j x).1 = h.1 := rfl
end
section
/-! small helps -/
theorem ixN {a j : Nat} (N : Nat) (h : a + j < N) (hN : N < 2 ^ 31 := by decide) : vp_in (nI a + nI j) N := by
  rw [nI_add]; exact vp_in_nI h hN
theorem ixC {a j : Nat} (h : a + j < 2 ^ 31) : (nI a + nI j).toNatClampNeg = a + j := by
  rw [nI_add]; exact nI_clamp h
theorem ix1 {j : Nat} (N : Nat) (h : j < N) (hN : N < 2 ^ 31 := by decide) : vp_in (nI j) N := vp_in_nI h hN
/-- it answers x and leaves the heap as it was -/
abbrev Rd (h : Hp) (x : Int32) : AV → Hp → Prop := fun v h' => v = vI x ∧ h' = h
/-- it answers x, the heap is h2 -/
abbrev Rt (x : Int32) (h2 : Hp) : AV → Hp → Prop := fun v h' => v = vI x ∧ h' = h2
/-- nothing is answered, the heap is h2 -/
abbrev Rv (h2 : Hp) : AV → Hp → Prop := fun _ h' => h' = h2
def b2 (c : Bool) : Int32 := match c with
  | true => nI 1
  | false => nI 0
theorem b2_01 (c : Bool) : b2 c = 0 ∨ b2 c = 1 := by cases c <;> decide
theorem b2_0 {c : Bool} : b2 c = 0 ↔ c = false := by cases c <;> decide
theorem b2_n0 {c : Bool} : ¬ b2 c = 0 ↔ c = true := by cases c <;> decide
theorem b2_inj {a b : Bool} (h : b2 a = b2 b) : a = b := by cases a <;> cases b <;> first | rfl | (exact absurd h (by decide))
theorem bT {c : Bool} (h : c = true) : vI (nI 1) = vI (b2 c) := by rw [h]; rfl
theorem bF {c : Bool} (h : c = false) : vI (nI 0) = vI (b2 c) := by rw [h]; rfl
theorem dT {p : Prop} [Decidable p] (h : p) : decide p = true := decide_eq_true h
theorem dF {p : Prop} [Decidable p] (h : ¬ p) : decide p = false := decide_eq_false h
theorem nn {p : Prop} (h : ¬ ¬ p) : p := Classical.not_not.mp h
theorem i_nle {a b : Int32} (h : ¬ a ≤ b) : b < a := Int32.not_le.mp h
theorem i_nlt {a b : Int32} (h : ¬ a < b) : b ≤ a := Int32.not_lt.mp h
theorem i_ltn {a b : Int32} (h : b ≤ a) : ¬ a < b := Int32.not_lt.mpr h
theorem i_len {a b : Int32} (h : b < a) : ¬ a ≤ b := Int32.not_le.mpr h
theorem e01 {x : Int32} (h : x = nI 0 ∨ x = nI 1) : x = 0 ∨ x = 1 := h
/-- the bit of place j -/
def bit (j : Nat) : Int32 := nI 1 <<< (nI j &&& 31)
/-- bits gathered -/
def orF (g : Nat → Int32) : Nat → Int32
  | 0 => nI 0
  | n + 1 => orF g n ||| g n
def smF (g : Nat → Int32) : Nat → Int32
  | 0 => nI 0
  | n + 1 => smF g n + g n
theorem orF_cong {f g : Nat → Int32} : ∀ {n : Nat}, (∀ j, j < n → f j = g j) → orF f n = orF g n
  | 0, _ => rfl
  | n + 1, h => by rw [orF, orF, orF_cong (fun j hj => h j (by omega)), h n (by omega)]
theorem smF_cong {f g : Nat → Int32} : ∀ {n : Nat}, (∀ j, j < n → f j = g j) → smF f n = smF g n
  | 0, _ => rfl
  | n + 1, h => by rw [smF, smF, smF_cong (fun j hj => h j (by omega)), h n (by omega)]
def clampN (lo hi x : Int32) : Int32 := if lo < (if x < hi then x else hi) then (if x < hi then x else hi) else lo
theorem upd_s {f : Nat → Int32} {k : Nat} {x : Int32} : upd f k x k = x := if_pos rfl
theorem upd_n {f : Nat → Int32} {k j : Nat} {x : Int32} (h : j ≠ k) : upd f k x j = f j := if_neg h
theorem sX_eq {h : Hp} {k i j : Nat} {x : Int32} : sX h k i j x = sV h k i (upd (h.1 k i) j x) := rfl
theorem sV_sV {h : Hp} {k i : Nat} {f g : Nat → Int32} : sV (sV h k i f) k i g = sV h k i g := by
  unfold sV
  refine Prod.ext ?_ rfl
  funext k' i'
  dsimp only
  split <;> rfl
theorem sV_sX {h : Hp} {k i j : Nat} {f : Nat → Int32} {x : Int32} : sX (sV h k i f) k i j x = sV h k i (upd f j x) := by
  unfold sX
  rw [sV_same, sV_sV]
theorem hp_eq {h h' : Hp} (e1 : ∀ k i, h.1 k i = h'.1 k i) (e2 : h.2 = h'.2) : h = h' := Prod.ext (funext fun k => funext fun i => e1 k i) e2
theorem wp_h {al : List Ad} {M : MT} {k : Nat} {P : AV → Hp → Prop} {pc : Nat} {lv : List (Option AV)} {st : List AV} {h h' : Hp} (e : h = h') (w : WP al M k P pc lv st h') : WP al M k P pc lv st h := e ▸ w
theorem wp_lv {al : List Ad} {M : MT} {k : Nat} {P : AV → Hp → Prop} {pc : Nat} {lv lv' : List (Option AV)} {st : List AV} {h : Hp} (e : lv = lv') (w : WP al M k P pc lv' st h) : WP al M k P pc lv st h := e ▸ w
end
section
/-! numbers: bits and counts (nI_and, nI_or, nI_xor as in the kit's number rows) -/
theorem nI_and (a b : Nat) : nI a &&& nI b = nI (a &&& b) := by
  apply Int32.toBitVec_inj.1
  show BitVec.ofNat 32 a &&& BitVec.ofNat 32 b = BitVec.ofNat 32 (a &&& b)
  apply BitVec.eq_of_getLsbD_eq
  intro i hi
  simp [hi]
theorem nI_or (a b : Nat) : nI a ||| nI b = nI (a ||| b) := by
  apply Int32.toBitVec_inj.1
  show BitVec.ofNat 32 a ||| BitVec.ofNat 32 b = BitVec.ofNat 32 (a ||| b)
  apply BitVec.eq_of_getLsbD_eq
  intro i hi
  simp [hi]
theorem nI_xor (a b : Nat) : nI a ^^^ nI b = nI (a ^^^ b) := by
  apply Int32.toBitVec_inj.1
  show BitVec.ofNat 32 a ^^^ BitVec.ofNat 32 b = BitVec.ofNat 32 (a ^^^ b)
  apply BitVec.eq_of_getLsbD_eq
  intro i hi
  simp [hi]
theorem m1_nI : -(nI 1) = nI 4294967295 := by decide
theorem nI_not (a : Nat) : nI a ^^^ -(nI 1) = nI (a ^^^ 4294967295) := by rw [m1_nI, nI_xor]
theorem bit_nI : ∀ j, j < 16 → bit j = nI (2 ^ j) := by decide
theorem sh_tb : ∀ s, s < 256 → ∀ j, j < 8 → ((nI s >>> (nI j &&& 31)) &&& nI 1) = if s.testBit j then nI 1 else nI 0 := by decide +kernel
/-- the bit j of x -/
def hsB (x : Int32) (j : Nat) : Bool := decide ((x >>> (nI j &&& 31)) &&& nI 1 = nI 1)
theorem hsB_tb {s j : Nat} (hs : s < 256) (hj : j < 8) : hsB (nI s) j = s.testBit j := by
  unfold hsB
  rw [sh_tb s hs j hj]
  cases s.testBit j <;> decide
theorem tb_M (i : Nat) (hi : i < 32) : (4294967295 : Nat).testBit i = true := by
  have : ∀ i, i < 32 → (4294967295 : Nat).testBit i = true := by decide
  exact this i hi
theorem nI_inj {a b : Nat} (ha : a < 2 ^ 31) (hb : b < 2 ^ 31) (h : nI a = nI b) : a = b := (nI_eq ha hb).mp h
def ush (x : Int32) (s : Nat) : Int32 := (x.toUInt32 >>> ((nI s).toUInt32 &&& Int32.toUInt32 31)).toInt32
def bc1 (x : Int32) : Int32 := x - (ush x 1 &&& nI 1431655765)
def bc2 (x : Int32) : Int32 := (x &&& nI 858993459) + (ush x 2 &&& nI 858993459)
def bc3 (x : Int32) : Int32 := (x + ush x 4) &&& nI 252645135
def bc4 (x : Int32) : Int32 := x + ush x 8
def bc5 (x : Int32) : Int32 := x + ush x 16
/-- Integer.bitCount -/
def bcF (x : Int32) : Int32 := bc5 (bc4 (bc3 (bc2 (bc1 x)))) &&& nI 63
theorem c_bitCount {al : List Ad} {k : Nat} {h : Hp} {x : Int32} (hok : Okal al) : Ct al mJ6_bitCount_0f7a4 k [vI x] h (Rd h (bcF x)) := by
  refine ct_vc tJ6_bitCount_0f7a4 [] 60 hok kJ6_bitCount_0f7a4 rfl ?_
  exact ⟨rfl, rfl⟩
/-- how many bits, counted -/
def pcN : Nat → Nat → Nat
  | 0, _ => 0
  | f + 1, s => (if s.testBit f then 1 else 0) + pcN f s
theorem bc8 : ∀ s, s < 256 → bcF (nI s) = nI (pcN 8 s) := by decide +kernel
end
section
/-! class State: cells by their places -/
theorem c_favour {k i j : Nat} {h : Hp} (hj : j < 8) : Ct alC mX8_favour k [vR 8 i, vI (nI j)] h (Rd h (h.1 33 i j)) := by
  refine ct_vc tX8_favour [] 20 okC kX8_favour rfl ?_
  refine ⟨ixN 47 (by omega), ?_, rfl⟩
  rw [ixC (by omega), Nat.zero_add]
theorem c_hurt {k i j : Nat} {h : Hp} (hj : j < 8) : Ct alC mX8_hurt k [vR 8 i, vI (nI j)] h (Rd h (h.1 33 i (8 + j))) := by
  refine ct_vc tX8_hurt [] 20 okC kX8_hurt rfl ?_
  refine ⟨ixN 47 (by omega), ?_, rfl⟩
  rw [ixC (by omega)]
theorem c_fought {k i j : Nat} {h : Hp} (hj : j < 8) : Ct alC mX8_fought k [vR 8 i, vI (nI j)] h (Rd h (h.1 33 i (16 + j))) := by
  refine ct_vc tX8_fought [] 20 okC kX8_fought rfl ?_
  refine ⟨ixN 47 (by omega), ?_, rfl⟩
  rw [ixC (by omega)]
theorem c_won {k i j : Nat} {h : Hp} (hj : j < 8) : Ct alC mX8_won k [vR 8 i, vI (nI j)] h (Rd h (h.1 33 i (24 + j))) := by
  refine ct_vc tX8_won [] 20 okC kX8_won rfl ?_
  refine ⟨ixN 47 (by omega), ?_, rfl⟩
  rw [ixC (by omega)]
theorem c_fate {k i j : Nat} {h : Hp} (hj : j < 8) : Ct alC mX8_fate k [vR 8 i, vI (nI j)] h (Rd h (h.1 33 i (32 + j))) := by
  refine ct_vc tX8_fate [] 20 okC kX8_fate rfl ?_
  refine ⟨ixN 47 (by omega), ?_, rfl⟩
  rw [ixC (by omega)]
theorem c_means {k i : Nat} {h : Hp} : Ct alC mX8_means k [vR 8 i] h (Rd h (h.1 33 i 45)) := by
  refine ct_vc tX8_means [] 20 okC kX8_means rfl ?_
  exact ⟨ix1 47 (by omega), rfl, rfl⟩
theorem c_isHere {k i j : Nat} {h : Hp} (hj : j < 8) : Ct alC mX8_isHere (k + 1) [vR 8 i, vI (nI j)] h (Rd h (b2 (decide (h.1 33 i (32 + j) = 0)))) := by
  refine ct_vc tX8_isHere [] 20 okC kX8_isHere rfl ?_
  refine ⟨_, c_fate hj, ?_⟩
  rintro v h' ⟨rfl, rfl⟩
  exact ⟨fun c => ⟨Or.inl rfl, bF (dF c), rfl⟩, fun c => ⟨Or.inr rfl, bT (dT (nn c)), rfl⟩⟩
theorem c_isDead {k i j : Nat} {h : Hp} (hj : j < 8) : Ct alC mX8_isDead (k + 1) [vR 8 i, vI (nI j)] h (Rd h (b2 (decide (h.1 33 i (32 + j) = nI 1)))) := by
  refine ct_vc tX8_isDead [] 20 okC kX8_isDead rfl ?_
  refine ⟨_, c_fate hj, ?_⟩
  rintro v h' ⟨rfl, rfl⟩
  exact ⟨fun c => ⟨Or.inl rfl, bF (dF c), rfl⟩, fun c => ⟨Or.inr rfl, bT (dT (nn c)), rfl⟩⟩
/-- can fight: HERE and HURT below 9 -/
def canF (s : Nat → Int32) (j : Nat) : Bool := decide (s (32 + j) = 0) && decide (s (8 + j) < nI 9)
theorem c_canFight {k i j : Nat} {h : Hp} (hj : j < 8) : Ct alC mX8_canFight (k + 2) [vR 8 i, vI (nI j)] h (Rd h (b2 (canF (h.1 33 i) j))) := by
  refine ct_vc tX8_canFight [] 20 okC kX8_canFight rfl ?_
  refine ⟨_, c_isHere hj, ?_⟩
  rintro v h' ⟨rfl, rfl⟩
  refine ⟨fun c => ⟨Or.inl rfl, bF (by unfold canF; rw [b2_0.mp c]; rfl), rfl⟩, fun c1 => ⟨_, c_hurt hj, ?_⟩⟩
  rintro v h' ⟨rfl, rfl⟩
  exact ⟨fun c => ⟨Or.inl rfl, bF (by unfold canF; rw [b2_n0.mp c1, dF (i_ltn c)]; rfl), rfl⟩, fun c => ⟨Or.inr rfl, bT (by unfold canF; rw [b2_n0.mp c1, dT (i_nle c)]; rfl), rfl⟩⟩
theorem c_take {k i i2 : Nat} {h : Hp} : Ct alC mX8_take (k + 1) [vR 8 i, vR 8 i2] h (Rv (sV h 33 i (h.1 33 i2))) := by
  refine ct_vc tX8_take [(15, [])] 20 okC kX8_take rfl ?_
  refine ⟨by decide, by decide, by decide, (by decide : (nI 0).toNatClampNeg + (nI 47).toNatClampNeg ≤ 47), (by decide : (nI 0).toNatClampNeg + (nI 47).toNatClampNeg ≤ 47), ?_⟩
  refine wp_eqv (h' := sV h 33 i (h.1 33 i2)) (eqv_V (q := (0, 47, 0, 0, 0, 0)) rfl (fun j hj => ?_)) (wp_at tX8_take [] 5 15 okC kX8_take rfl)
  have e0 : (nI 0).toNatClampNeg = 0 := by decide
  rw [e0]
  exact (pk_cpy_in (Nat.zero_le _) (by rw [Nat.zero_add]; exact hj)).trans (by rw [Nat.sub_zero, Nat.zero_add])
/-- a fighter comes -/
def entF (s : Nat → Int32) (j : Nat) (fv : Int32) : Nat → Int32 := upd (upd (upd (upd (upd s j fv) (8 + j) (nI 0)) (16 + j) (nI 0)) (24 + j) (nI 0)) (32 + j) (nI 0)
theorem c_enter {k i j : Nat} {h : Hp} {fv : Int32} (hj : j < 8) : Ct alC mX8_enter k [vR 8 i, vI (nI j), vI fv] h (Rv (sV h 33 i (entF (h.1 33 i) j fv))) := by
  refine ct_vc tX8_enter [] 60 okC kX8_enter rfl ?_
  refine ⟨ixN 47 (by omega), ixN 47 (by omega), ixN 47 (by omega), ixN 47 (by omega), ixN 47 (by omega), ?_⟩
  simp only [ixC (show 0 + j < 2 ^ 31 by omega), ixC (show 8 + j < 2 ^ 31 by omega), ixC (show 16 + j < 2 ^ 31 by omega), ixC (show 24 + j < 2 ^ 31 by omega), ixC (show 32 + j < 2 ^ 31 by omega), Nat.zero_add]
  unfold entF
  rw [sX_eq (h := h), sV_sX, sV_sX, sV_sX, sV_sX]
  exact rfl
def likF (s : Nat → Int32) (j : Nat) (m : Int32) : Nat → Int32 := upd s j (clampN (nI 0) (nI 99) (s j + m))
theorem c_like {k i j : Nat} {h : Hp} {m : Int32} (hj : j < 8) : Ct alC mX8_like (k + 1) [vR 8 i, vI (nI j), vI m] h (Rv (sV h 33 i (likF (h.1 33 i) j m))) := by
  refine ct_vc tX8_like [] 60 okC kX8_like rfl ?_
  refine ⟨_, c_favour hj, ?_⟩
  rintro v h' ⟨rfl, rfl⟩
  refine ⟨ixN 47 (by omega), ?_⟩
  rw [ixC (by omega), Nat.zero_add]
  rfl
def payF (s : Nat → Int32) (o : Nat) (x : Int32) : Nat → Int32 := upd (upd s 45 (s 45 - x)) (40 + o) (upd s 45 (s 45 - x) (40 + o) + x)
theorem c_pay {k i o : Nat} {h : Hp} {x : Int32} (ho : o < 4) : Ct alC mX8_pay k [vR 8 i, vI (nI o), vI x] h (Rv (sV h 33 i (payF (h.1 33 i) o x))) := by
  refine ct_vc tX8_pay [] 60 okC kX8_pay rfl ?_
  refine ⟨ix1 47 (by omega), ix1 47 (by omega), ixN 47 (by omega), ixN 47 (by omega), ?_⟩
  simp only [ixC (show 40 + o < 2 ^ 31 by omega), nI_clamp (show 45 < 2 ^ 31 by omega)]
  rw [sX_eq (h := h), sV_sX, sV_same]
  rfl
/-- who is of that fate -/
def btF (s : Nat → Int32) (ft : Int32) (n : Nat) : Int32 := orF (fun j => if s (32 + j) = ft then bit j else nI 0) n
theorem c_bits {k i n : Nat} {h : Hp} {ft : Int32} (hn : n ≤ 8) : Ct alC mX8_bits (k + 1) [vR 8 i, vI ft, vI (nI n)] h (Rd h (btF (h.1 33 i) ft n)) := by
  have L : ∀ t, t ≤ n → WP alC mX8_bits (k + 1) (Rd h (btF (h.1 33 i) ft n)) 5 [some (vR 8 i), some (vI ft), some (vI (nI n)), some (vI (btF (h.1 33 i) ft t)), some (vI (nI t))] [] h := by
    refine loop_up n ?_ (fun t ht ih => ?_)
    · exact wp_at tX8_bits [(5, [true, true, true, true, true])] 20 5 okC kX8_bits ⟨fun _ => ⟨rfl, rfl⟩, fun c => absurd (nI_le (Nat.le_refl n) (by omega)) c⟩
    · refine wp_at tX8_bits [(5, [true, true, true, true, true])] 40 5 okC kX8_bits ⟨fun c => absurd c (nI_ge ht (by omega)), fun _ => ⟨_, c_fate (by omega), ?_⟩⟩
      rintro v h' ⟨rfl, rfl⟩
      unfold btF at ih ⊢
      rw [orF, ← nI_add t 1] at ih
      refine ⟨fun c => ?_, fun c => ?_⟩
      · rw [if_neg c] at ih; exact ih
      · rw [if_pos (nn c)] at ih; exact ih
  exact ct_vc tX8_bits [(5, [true, true, true, true, true])] 20 okC kX8_bits rfl (L 0 (Nat.zero_le n))
/-- FAVOUR of a set of fighters -/
def fvF (s : Nat → Int32) (set : Int32) (n : Nat) : Int32 := smF (fun j => ((set >>> (nI j &&& 31)) &&& nI 1) * s j) n
theorem c_favourOf {k i : Nat} {h : Hp} {set : Int32} : Ct alC mX8_favourOf (k + 1) [vR 8 i, vI set] h (Rd h (fvF (h.1 33 i) set 8)) := by
  have L : ∀ t, t ≤ 8 → WP alC mX8_favourOf (k + 1) (Rd h (fvF (h.1 33 i) set 8)) 4 [some (vR 8 i), some (vI set), some (vI (fvF (h.1 33 i) set t)), some (vI (nI t))] [] h := by
    refine loop_up 8 ?_ (fun t ht ih => ?_)
    · exact wp_at tX8_favourOf [(4, [true, true, true, true])] 20 4 okC kX8_favourOf ⟨fun _ => ⟨rfl, rfl⟩, fun c => absurd (nI_le (Nat.le_refl 8) (by omega)) c⟩
    · refine wp_at tX8_favourOf [(4, [true, true, true, true])] 40 4 okC kX8_favourOf ⟨fun c => absurd c (nI_ge ht (by omega)), fun _ => ⟨_, c_favour (by omega), ?_⟩⟩
      rintro v h' ⟨rfl, rfl⟩
      unfold fvF at ih ⊢
      rw [smF, ← nI_add t 1] at ih
      exact ih
  exact ct_vc tX8_favourOf [(4, [true, true, true, true])] 20 okC kX8_favourOf rfl (L 0 (by omega))
end
section
/-! class Text: signs, size, place, limit -/
theorem sX_same {h : Hp} {k i j : Nat} {x : Int32} (e : h.1 k i j = x) : sX h k i j x = h := by
  unfold sX sV
  refine Prod.ext ?_ rfl
  funext k' i'
  dsimp only
  split
  next c =>
    obtain ⟨rfl, rfl⟩ := c
    funext j'
    by_cases cj : j' = j
    · subst cj; rw [upd_s, e]
    · rw [upd_n cj]
  next => rfl
theorem sX_sX {h : Hp} {k i j : Nat} {x y : Int32} : sX (sX h k i j x) k i j y = sX h k i j y := by
  rw [sX_eq (h := h), sV_sX]
  unfold sX
  congr 1
  funext j'
  by_cases cj : j' = j
  · subst cj; rw [upd_s, upd_s]
  · rw [upd_n cj, upd_n cj, upd_n cj]
/-- the sign at p, if there is one -/
def pk (T : Nat → Int32) (n L p : Nat) : Int32 := if p < n ∧ p < L then T p else -(nI 1)
/-- THE TEXT: n signs, read up to p, L of them at most -/
def Tx (h : Hp) (n L p : Nat) : Prop := h.1 9 0 1 = nI n ∧ h.1 9 0 2 = nI p ∧ h.1 9 0 3 = nI L ∧ n ≤ 80 ∧ L ≤ 80 ∧ p ≤ 200
abbrev sA (h : Hp) (p : Nat) : Hp := sX h 9 0 2 (nI p)
theorem Tx.at {h : Hp} {n L p q : Nat} (hx : Tx h n L p) (hq : q ≤ 200) : Tx (sA h q) n L q := by
  obtain ⟨h1, h2, h3, h4, h5, h6⟩ := hx
  refine ⟨?_, ?_, ?_, h4, h5, hq⟩ <;> rw [rdX] <;> simp [h1, h3]
theorem sA_same {h : Hp} {n L p : Nat} (hx : Tx h n L p) : sA h p = h := sX_same hx.2.1
theorem sA_T {h : Hp} {q : Nat} : (sA h q).1 34 0 = h.1 34 0 := by
  unfold sA sX; rw [rdV]; simp
def cutB (x s : Int32) : Bool := !(decide (x < 0)) && decide (x ≤ s)
theorem c_tcut {k : Nat} {h : Hp} {x : Int32} : Ct alC mX9_cut k [vR 9 0, vI x] h (Rt (b2 (cutB x (h.1 9 0 1))) (if cutB x (h.1 9 0 1) = true then sX h 9 0 1 x else h)) := by
  refine ct_vc tX9_cut [] 30 okC kX9_cut rfl ?_
  refine ⟨fun c => ⟨Or.inl rfl, ?_⟩, fun c => ⟨fun c2 => ⟨Or.inr rfl, ?_⟩, fun c2 => ⟨Or.inl rfl, ?_⟩⟩⟩
  · rw [show cutB x (h.1 9 0 1) = false by simp [cutB, c]]; exact ⟨rfl, rfl⟩
  · rw [show cutB x (h.1 9 0 1) = true by simp [cutB, c, c2]]; exact ⟨rfl, rfl⟩
  · rw [show cutB x (h.1 9 0 1) = false by simp [cutB, c2]]; exact ⟨rfl, rfl⟩
theorem c_tclear {k : Nat} {h : Hp} : Ct alC mX9_clear k [vR 9 0] h (Rv (sX h 9 0 1 (nI 0))) := ct_vc tX9_clear [] 10 okC kX9_clear rfl rfl
theorem c_tisEmpty {k : Nat} {h : Hp} : Ct alC mX9_isEmpty k [vR 9 0] h (Rd h (b2 (decide (h.1 9 0 1 = 0)))) := by
  refine ct_vc tX9_isEmpty [] 20 okC kX9_isEmpty rfl ?_
  exact ⟨fun c => ⟨Or.inl rfl, bF (dF c), rfl⟩, fun c => ⟨Or.inr rfl, bT (dT (nn c)), rfl⟩⟩
theorem c_tstart {k : Nat} {h : Hp} {x : Int32} : Ct alC mX9_start k [vR 9 0, vI x] h (Rv (sX (sX h 9 0 2 (nI 0)) 9 0 3 x)) := ct_vc tX9_start [] 20 okC kX9_start rfl rfl
theorem c_tended {k : Nat} {h : Hp} {n L p : Nat} (hx : Tx h n L p) : Ct alC mX9_ended k [vR 9 0] h (Rd h (b2 (decide (n ≤ p)))) := by
  obtain ⟨h1, h2, h3, h4, h5, h6⟩ := hx
  refine ct_vc tX9_ended [] 20 okC kX9_ended rfl ?_
  refine ⟨fun c => ⟨Or.inl rfl, bF (dF ?_), rfl⟩, fun c => ⟨Or.inr rfl, bT (dT ?_), rfl⟩⟩
  · rw [h1, h2, nI_ltI (by omega) (by omega)] at c; omega
  · rw [h1, h2, nI_ltI (by omega) (by omega)] at c; omega
theorem c_peek {k : Nat} {h : Hp} {n L p : Nat} (hx : Tx h n L p) : Ct alC mX9_peek k [vR 9 0] h (Rd h (pk (h.1 34 0) n L p)) := by
  obtain ⟨h1, h2, h3, h4, h5, h6⟩ := hx
  refine ct_vc tX9_peek [] 30 okC kX9_peek rfl ?_
  refine ⟨fun c => ⟨?_, rfl⟩, fun c => ⟨fun c2 => ⟨?_, rfl⟩, fun c2 => ⟨?_, ?_, rfl⟩⟩⟩
  · rw [h1, h2, nI_leI (by omega) (by omega)] at c
    unfold pk; rw [if_neg (by omega)]
  · rw [h3, h2, nI_leI (by omega) (by omega)] at c2
    unfold pk; rw [if_neg (by omega)]
  · rw [h1, h2, nI_leI (by omega) (by omega)] at c
    rw [h2]; exact ix1 80 (by omega)
  · rw [h1, h2, nI_leI (by omega) (by omega)] at c
    rw [h3, h2, nI_leI (by omega) (by omega)] at c2
    unfold pk; rw [if_pos (by omega), h2, nI_clamp (by omega)]
theorem c_next {k : Nat} {h : Hp} {n L p : Nat} (hx : Tx h n L p) : Ct alC mX9_next (k + 1) [vR 9 0] h (Rt (pk (h.1 34 0) n L p) (sA h (p + 1))) := by
  refine ct_vc tX9_next [] 30 okC kX9_next rfl ?_
  refine ⟨_, c_peek hx, ?_⟩
  rintro v h' ⟨rfl, rfl⟩
  refine ⟨rfl, ?_⟩
  rw [hx.2.1, nI_add]
/-- a sign is passed if it is c -/
def tkS (T : Nat → Int32) (n L : Nat) (c : Int32) (p : Nat) : Bool × Nat := if pk T n L p = c then (true, p + 1) else (false, p)
theorem c_ttake {k : Nat} {h : Hp} {n L p : Nat} {c : Int32} (hx : Tx h n L p) : Ct alC mX9_take (k + 1) [vR 9 0, vI c] h (Rt (b2 (tkS (h.1 34 0) n L c p).1) (sA h (tkS (h.1 34 0) n L c p).2)) := by
  refine ct_vc tX9_take [] 30 okC kX9_take rfl ?_
  refine ⟨_, c_peek hx, ?_⟩
  rintro v h' ⟨rfl, rfl⟩
  unfold tkS
  refine ⟨fun c => ⟨Or.inr rfl, ?_⟩, fun c => ⟨Or.inl rfl, ?_⟩⟩
  · rw [if_pos c]
    refine ⟨rfl, ?_⟩
    rw [hx.2.1, nI_add]
  · rw [if_neg c]
    exact ⟨rfl, (sA_same hx).symm⟩
/-- a digit from lo to hi -/
def tkD (T : Nat → Int32) (n L : Nat) (lo hi : Int32) (p : Nat) : Int32 × Nat := if pk T n L p - nI 48 < lo ∨ hi < pk T n L p - nI 48 then (-(nI 1), p) else (pk T n L p - nI 48, p + 1)
theorem c_takeDigit {k : Nat} {h : Hp} {n L p : Nat} {lo hi : Int32} (hx : Tx h n L p) : Ct alC mX9_takeDigit (k + 1) [vR 9 0, vI lo, vI hi] h (Rt (tkD (h.1 34 0) n L lo hi p).1 (sA h (tkD (h.1 34 0) n L lo hi p).2)) := by
  refine ct_vc tX9_takeDigit [] 30 okC kX9_takeDigit rfl ?_
  refine ⟨_, c_peek hx, ?_⟩
  rintro v h' ⟨rfl, rfl⟩
  unfold tkD
  refine ⟨fun c => ?_, fun c => ⟨fun c2 => ?_, fun c2 => ?_⟩⟩
  · rw [if_pos (Or.inl c)]; exact ⟨rfl, (sA_same hx).symm⟩
  · rw [if_neg (fun q => q.elim c (i_ltn c2))]
    refine ⟨rfl, ?_⟩
    rw [hx.2.1, nI_add]
  · rw [if_pos (Or.inr (i_nle c2))]; exact ⟨rfl, (sA_same hx).symm⟩
theorem tkD_le {T : Nat → Int32} {n L : Nat} {lo hi : Int32} {p : Nat} : (tkD T n L lo hi p).2 ≤ p + 1 := by
  unfold tkD; split <;> simp
/-- the rest of a number: i digits are read, m are allowed -/
def tkR (T : Nat → Int32) (n L m : Nat) : Nat → Nat → Int32 → Nat → Int32 × Nat
  | 0, _, x, p => (x, p)
  | f + 1, i, x, p => if m ≤ i then (x, p) else if (tkD T n L (nI 0) (nI 9) p).1 = -(nI 1) then (x, p) else tkR T n L m f (i + 1) (if i = 0 then (tkD T n L (nI 0) (nI 9) p).1 else x * nI 10 + (tkD T n L (nI 0) (nI 9) p).1) (tkD T n L (nI 0) (nI 9) p).2
def tkN (T : Nat → Int32) (n L m p : Nat) : Int32 × Nat := tkR T n L m (m + 1) 0 (-(nI 1)) p
theorem tkD_none {T : Nat → Int32} {n L : Nat} {p : Nat} (h : (tkD T n L (nI 0) (nI 9) p).1 = -(nI 1)) : (tkD T n L (nI 0) (nI 9) p).2 = p := by
  unfold tkD at h ⊢
  split
  · rfl
  next c =>
    rw [if_neg c] at h
    exfalso
    have h' : pk T n L p - nI 48 = -(nI 1) := h
    rw [h'] at c
    exact c (Or.inl (by decide))
theorem c_takeNumber {k : Nat} {h : Hp} {n L p m : Nat} (hx : Tx h n L p) (hm : m ≤ 3) (hp : p ≤ 100) : Ct alC mX9_takeNumber (k + 2) [vR 9 0, vI (nI m)] h (Rt (tkN (h.1 34 0) n L m p).1 (sA h (tkN (h.1 34 0) n L m p).2)) := by
  have Lp : ∀ (f i : Nat) (x : Int32) (q : Nat), m + 1 ≤ f + i → q ≤ p + i → i ≤ m → ∀ P : AV → Hp → Prop, P (vI (tkR (h.1 34 0) n L m f i x q).1) (sA h (tkR (h.1 34 0) n L m f i x q).2) → WP alC mX9_takeNumber (k + 2) P 4 [some (vR 9 0), some (vI (nI m)), some (vI x), some (vI (nI i)), none] [] (sA h q) := by
    intro f
    induction f with
    | zero => intro i x q h1 h2 h3 P; omega
    | succ f ih =>
      intro i x q h1 h2 h3 P hP
      refine wp_at tX9_takeNumber [(4, [true, true, true, true, false]), (43, [true, true, true, true, false])] 40 4 okC kX9_takeNumber ?_
      rw [tkR] at hP
      refine ⟨fun c => ?_, fun c => ?_⟩
      · rw [nI_leI (by omega) (by omega)] at c
        rw [if_pos c] at hP
        exact hP
      · rw [nI_leI (by omega) (by omega)] at c
        rw [if_neg c] at hP
        refine ⟨_, c_takeDigit (hx.at (q := q) (by omega)), ?_⟩
        rintro v h' ⟨rfl, rfl⟩
        rw [sA_T]
        have hle := tkD_le (T := h.1 34 0) (n := n) (L := L) (lo := nI 0) (hi := nI 9) (p := q)
        rw [show sA (sA h q) (tkD (h.1 34 0) n L (nI 0) (nI 9) q).2 = sA h (tkD (h.1 34 0) n L (nI 0) (nI 9) q).2 from sX_sX]
        refine ⟨fun c2 => ⟨fun c3 => ?_, fun c3 => ?_⟩, fun c2 => ?_⟩
        · rw [if_neg c2] at hP
          have hi : i ≠ 0 := fun z => c3 (by rw [z]; rfl)
          rw [if_neg hi] at hP
          refine wp_at tX9_takeNumber [(4, [true, true, true, true, false])] 10 43 okC kX9_takeNumber ?_
          have := ih (i + 1) (x * nI 10 + (tkD (h.1 34 0) n L (nI 0) (nI 9) q).1) (tkD (h.1 34 0) n L (nI 0) (nI 9) q).2 (by omega) (by omega) (by omega) P hP
          rw [← nI_add i 1] at this
          exact this
        · rw [if_neg c2] at hP
          have hi : i = 0 := by
            have z := nn c3
            exact (nI_eq (by omega) (by omega)).mp (show nI i = nI 0 from z)
          rw [if_pos hi] at hP
          refine wp_at tX9_takeNumber [(4, [true, true, true, true, false])] 10 43 okC kX9_takeNumber ?_
          have := ih (i + 1) (tkD (h.1 34 0) n L (nI 0) (nI 9) q).1 (tkD (h.1 34 0) n L (nI 0) (nI 9) q).2 (by omega) (by omega) (by omega) P hP
          rw [← nI_add i 1] at this
          exact this
        · have c2' := nn c2
          rw [if_pos c2'] at hP
          rw [tkD_none c2']
          exact hP
  refine ct_vc tX9_takeNumber [(4, [true, true, true, true, false])] 20 okC kX9_takeNumber rfl ?_
  have := Lp (m + 1) 0 (-(nI 1)) p (by omega) (by omega) (by omega) (Rt (tkN (h.1 34 0) n L m p).1 (sA h (tkN (h.1 34 0) n L m p).2)) ⟨rfl, rfl⟩
  rw [sA_same hx] at this
  exact this
/-- four signs, the highest byte first -/
def byt4 (v : Int32) (j : Nat) : Int32 := (v.toUInt32 >>> ((nI (24 - 8 * j)).toUInt32 &&& Int32.toUInt32 31)).toInt32 &&& nI 255
def appF (T : Nat → Int32) (n : Nat) (v : Int32) : Nat → Nat → Int32
  | 0 => T
  | j + 1 => upd (appF T n v j) (n + j) (byt4 v j)
theorem c_append {k n : Nat} {h : Hp} {v : Int32} (h1 : h.1 9 0 1 = nI n) (hn : n ≤ 80) : Ct alC mX9_append k [vR 9 0, vI v] h (Rt (b2 (decide (n + 4 ≤ 80))) (if n + 4 ≤ 80 then sX (sV h 34 0 (appF (h.1 34 0) n v 4)) 9 0 1 (nI (n + 4)) else h)) := by
  have Lp : n + 4 ≤ 80 → ∀ j, j ≤ 4 → WP alC mX9_append k (Rt (b2 (decide (n + 4 ≤ 80))) (if n + 4 ≤ 80 then sX (sV h 34 0 (appF (h.1 34 0) n v 4)) 9 0 1 (nI (n + 4)) else h)) 16 [some (vR 9 0), some (vI v), some (vI (nI 24 - nI (8 * j)))] [] (sX (sV h 34 0 (appF (h.1 34 0) n v j)) 9 0 1 (nI (n + j))) := by
    intro h4
    refine loop_up 4 ?_ (fun j hj ih => ?_)
    · refine wp_at tX9_append [(16, [true, true, true])] 40 16 okC kX9_append ⟨fun _ => ⟨Or.inr rfl, ?_⟩, fun c => absurd (by decide) c⟩
      rw [dT h4, if_pos h4]
      exact ⟨rfl, rfl⟩
    · refine wp_at tX9_append [(16, [true, true, true])] 40 16 okC kX9_append ⟨fun c => ?_, fun c => ?_⟩
      · exfalso
        rcases (by omega : j = 0 ∨ j = 1 ∨ j = 2 ∨ j = 3) with rfl | rfl | rfl | rfl <;> revert c <;> decide
      · have e1 : (sX (sV h 34 0 (appF (h.1 34 0) n v j)) 9 0 1 (nI (n + j))).1 9 0 1 = nI (n + j) := by rw [rdX]; simp
        have e3 : nI 24 - nI (8 * j) = nI (24 - 8 * j) := pk_sub (by omega)
        have ev : nI 24 - nI (8 * (j + 1)) = nI 24 - nI (8 * j) + -(nI 8) := by
          rcases (by omega : j = 0 ∨ j = 1 ∨ j = 2 ∨ j = 3) with rfl | rfl | rfl | rfl <;> decide
        refine ⟨?_, ?_⟩
        · rw [e1]; exact ix1 80 (by omega)
        · rw [ev] at ih
          refine wp_h ?_ ih
          rw [e1, nI_clamp (by omega), e3]
          refine hp_eq (fun k' i' => ?_) rfl
          by_cases c1 : k' = 34 ∧ i' = 0
          · obtain ⟨rfl, rfl⟩ := c1
            simp [sX_eq, rdV, appF, byt4]
          · by_cases c2 : k' = 9 ∧ i' = 0
            · obtain ⟨rfl, rfl⟩ := c2
              simp [sX_eq, rdV]
              funext q
              by_cases cq : q = 1
              · subst cq
                simp [upd_s, nI_add, Nat.add_assoc]
              · simp [upd_n cq]
            · simp [sX_eq, rdV, c1, c2]
  refine ct_vc tX9_append [(16, [true, true, true])] 40 okC kX9_append rfl ?_
  refine ⟨fun c => ?_, fun c => ⟨Or.inl rfl, ?_⟩⟩
  · rw [h1, nI_add, nI_leI (by omega) (by omega)] at c
    have := Lp c 0 (by omega)
    rw [show nI 24 - nI (8 * 0) = nI 24 by decide] at this
    refine wp_h ?_ this
    refine hp_eq (fun k' i' => ?_) rfl
    by_cases c1 : k' = 34 ∧ i' = 0
    · obtain ⟨rfl, rfl⟩ := c1
      simp [sX_eq, rdV, appF]
    · by_cases c2 : k' = 9 ∧ i' = 0
      · obtain ⟨rfl, rfl⟩ := c2
        simp [sX_eq, rdV]
        funext q
        by_cases cq : q = 1
        · subst cq
          simp [upd_s, h1]
        · simp [upd_n cq]
      · simp [sX_eq, rdV, c1, c2]
  · rw [h1, nI_add, nI_leI (by omega) (by omega)] at c
    rw [dF c, if_neg c]
    exact ⟨rfl, rfl⟩
end
section
/-! class Row -/
theorem c_rclear {k : Nat} {h : Hp} : Ct alC mX5_clear k [vR 5 0] h (Rv (sX h 5 0 1 (nI 0))) := ct_vc tX5_clear [] 10 okC kX5_clear rfl rfl
/-- one number more -/
def rAdd (h : Hp) (m : Nat) (v : Int64) : Hp := sX (sL h 25 m v) 5 0 1 (nI (m + 1))
theorem c_radd {k m : Nat} {h : Hp} {v : Int64} (hm : h.1 5 0 1 = nI m) (h8 : m < 8) : Ct alC mX5_add k [vR 5 0, vL v] h (Rv (rAdd h m v)) := by
  refine ct_vc tX5_add [] 40 okC kX5_add rfl ?_
  refine ⟨fun c => ?_, fun c => ⟨?_, ?_⟩⟩
  · exfalso
    have c' : nI 8 ≤ h.1 5 0 1 := c
    rw [hm, nI_leI (by omega) (by omega)] at c'
    omega
  · rw [hm]; exact ix1 8 h8
  · rw [hm, nI_clamp (by omega)]
    unfold rAdd
    show sX (sL h 25 m v) 5 0 1 (h.1 5 0 1 + nI 1) = _
    rw [hm, nI_add]
theorem lg_0 {x y : Int64} : lg_cmp x y = 0 ↔ x = y := by
  unfold lg_cmp
  constructor
  · intro h
    split at h
    · cases h
    · split at h
      next e => exact e
      next => cases h
  · rintro rfl
    rw [if_neg (by simp), if_pos rfl]
def cdF : Nat → Int64 → Int64 → Int64
  | 0, a, _ => a
  | f + 1, a, b => if b = 0 then a else cdF f b (a - a / b * b)
def cmD (a b : Int64) : Int64 := if cdF 100 a b < lN 1 then lN 1 else cdF 100 a b
theorem c_commonDivisor {k : Nat} {h : Hp} {a b : Int64} : Ct alC mX5_commonDivisor (k + 1) [vL a, vL b] h (fun v h' => v = vL (cmD a b) ∧ h' = h) := by
  have Lp : ∀ (f i : Nat) (x y : Int64), i + f = 100 → cdF f x y = cdF 100 a b → WP alC mX5_commonDivisor (k + 1) (fun v h' => v = vL (cmD a b) ∧ h' = h) 9 [none, none, none, none, some (vL x), none, some (vL y), none, some (vI (nI i)), none, none] [] h := by
    intro f
    induction f with
    | zero =>
      intro i x y hi e
      refine wp_at tX5_commonDivisor [(9, [])] 40 9 okC kX5_commonDivisor ⟨fun c => ?_, fun c => absurd (nI_le (by omega) (by omega)) c⟩
      rw [show x = cdF 100 a b from e]
      exact ⟨rfl, rfl⟩
    | succ f ih =>
      intro i x y hi e
      refine wp_at tX5_commonDivisor [(9, [false, false, false, false, true, false, true, false, true, false, false])] 40 9 okC kX5_commonDivisor ⟨fun c => absurd c (nI_ge (by omega) (by omega)), fun c => ⟨fun c2 => ?_, fun c2 => ⟨?_, ?_⟩⟩⟩
      · rw [cdF, if_pos (show y = 0 from lg_0.mp c2)] at e
        rw [e]
        exact ⟨rfl, rfl⟩
      · exact fun z => c2 (lg_0.mpr z)
      · have hy : ¬ y = 0 := fun z => c2 (lg_0.mpr z)
        rw [cdF, if_neg hy] at e
        have := ih (i + 1) y (x - x / y * y) (by omega) e
        rw [← nI_add i 1] at this
        exact this
  refine ct_vc tX5_commonDivisor [(9, [false, false, false, false, true, false, true, false, true, false, false])] 20 okC kX5_commonDivisor rfl ?_
  exact Lp 100 0 a b rfl rfl
theorem rAdd_size {h : Hp} {m : Nat} {v : Int64} : (rAdd h m v).1 5 0 1 = nI (m + 1) := by unfold rAdd; rw [rdX]; simp
theorem c_addFraction {k m : Nat} {h : Hp} {a b : Int64} (hm : h.1 5 0 1 = nI m) (h8 : m + 1 < 8) (hd : ¬ cmD a b = 0) : Ct alC mX5_addFraction (k + 2) [vR 5 0, vL a, vL b] h (Rv (rAdd (rAdd h m (a / cmD a b)) (m + 1) (b / cmD a b))) := by
  refine ct_vc tX5_addFraction [] 40 okC kX5_addFraction rfl ?_
  refine ⟨_, c_commonDivisor, ?_⟩
  rintro v h' ⟨rfl, rfl⟩
  refine ⟨hd, _, c_radd hm (by omega), ?_⟩
  rintro v h' rfl
  refine ⟨hd, _, c_radd rAdd_size h8, ?_⟩
  rintro v h' rfl
  exact rfl
end
section
/-! class Lines: columns and count -/
theorem nI_0' : nI 0 = 0 := rfl
/-- x is one of the first n -/
def hasN (x : Int32) (n : Nat) : Bool := decide (0 ≤ x) && decide (x < nI n)
theorem hasN_get {x : Int32} {n : Nat} (h : hasN x n = true) (hn : n < 2 ^ 31) : ∃ j, j < n ∧ x = nI j := by
  unfold hasN at h
  obtain ⟨h1, h2⟩ := and3 h
  have h1 := of_decide_eq_true h1
  have h2 := of_decide_eq_true h2
  obtain ⟨j, hj, rfl⟩ := nI_of (i_ltn h1)
  rw [nI_ltI hj hn] at h2
  exact ⟨j, h2, rfl⟩
theorem hasN_nI {j n : Nat} (hj : j < n) (hn : n < 2 ^ 31) : hasN (nI j) n = true := by
  unfold hasN
  rw [dT (show (0 : Int32) ≤ nI j from nI_pos' (by omega)), dT (nI_lt hj hn)]
  rfl
theorem c_has {k q n : Nat} {h : Hp} {x : Int32} (hc : h.1 3 q 3 = nI n) : Ct alC mX3_has k [vR 3 q, vI x] h (Rd h (b2 (hasN x n))) := by
  refine ct_vc tX3_has [] 20 okC kX3_has rfl ?_
  refine ⟨fun c => ⟨Or.inl rfl, bF ?_, rfl⟩, fun c => ⟨fun c2 => ⟨Or.inl rfl, bF ?_, rfl⟩, fun c2 => ⟨Or.inr rfl, bT ?_, rfl⟩⟩⟩
  · unfold hasN; rw [dF (fun z => (i_ltn z) c)]; rfl
  · rw [hc] at c2
    unfold hasN; rw [dF (i_ltn c2)]; simp
  · rw [hc] at c2
    unfold hasN; rw [dT (i_nlt c), dT (i_nle c2)]; rfl
theorem c_of {k q p j : Nat} {h : Hp} (hp : p < 5) (hj : j < 8) : Ct alC mX3_of k [vR 3 q, vI (nI p), vI (nI j)] h (Rd h (h.1 38 (5 * q + p) j)) := by
  refine ct_vc tX3_of [] 20 okC kX3_of rfl ?_
  refine ⟨ix1 5 hp, ix1 8 hj, ?_, rfl⟩
  rw [nI_clamp (by omega), nI_clamp (by omega)]
/-- the sum of a column over a set -/
def csF (f : Nat → Int32) (set : Int32) (n : Nat) : Int32 := smF (fun j => ((set >>> (nI j &&& 31)) &&& nI 1) * f j) n
theorem c_lsum {k q p n : Nat} {h : Hp} {set : Int32} (hc : h.1 3 q 3 = nI n) (hn : n ≤ 8) (hp : p < 5) : Ct alC mX3_sum k [vR 3 q, vI (nI p), vI set] h (Rd h (csF (h.1 38 (5 * q + p)) set n)) := by
  have L : ∀ t, t ≤ n → WP alC mX3_sum k (Rd h (csF (h.1 38 (5 * q + p)) set n)) 5 [some (vR 3 q), some (vI (nI p)), some (vI set), some (vI (csF (h.1 38 (5 * q + p)) set t)), some (vI (nI t))] [] h := by
    refine loop_up n ?_ (fun t ht ih => ?_)
    · exact wp_at tX3_sum [(5, [true, true, true, true, true])] 20 5 okC kX3_sum ⟨fun _ => ⟨rfl, rfl⟩, fun c => absurd (by rw [hc]; exact nI_le (Nat.le_refl n) (by omega)) c⟩
    · refine wp_at tX3_sum [(5, [true, true, true, true, true])] 40 5 okC kX3_sum ⟨fun c => absurd c (by rw [hc]; exact nI_ge ht (by omega)), fun _ => ⟨ix1 5 hp, ix1 8 (by omega), ?_⟩⟩
      unfold csF at ih ⊢
      rw [smF, ← nI_add t 1] at ih
      rw [nI_clamp (by omega), nI_clamp (by omega)]
      exact ih
  exact ct_vc tX3_sum [(5, [true, true, true, true, true])] 20 okC kX3_sum rfl (L 0 (Nat.zero_le n))
theorem c_lenter {k q : Nat} {h : Hp} : Ct alC mX3_enter k [vR 3 q] h (Rt (h.1 3 q 4) (sX h 3 q 3 (h.1 3 q 3 + h.1 3 q 4))) := by
  refine ct_vc tX3_enter [] 20 okC kX3_enter rfl ?_
  refine ⟨?_, rfl⟩
  rw [rdX]
  simp
end
section
/-! class Wall -/
theorem c_wisAbove {k i j : Nat} {h : Hp} (hj : j < 8) : Ct alC mX10_isAbove k [vR 10 0, vI (nI i), vI (nI j)] h (Rd h (b2 (hsB (h.1 35 0 j) i))) := by
  refine ct_vc tX10_isAbove [] 20 okC kX10_isAbove rfl ?_
  refine ⟨ix1 8 hj, ?_⟩
  rw [nI_clamp (by omega)]
  exact ⟨fun c => ⟨Or.inl rfl, bF (dF c), rfl⟩, fun c => ⟨Or.inr rfl, bT (dT (nn c)), rfl⟩⟩
/-- the first t cells cleared -/
def zrF (f : Nat → Int32) (t : Nat) : Nat → Int32 := fun q => if q < t then nI 0 else f q
theorem c_wclear {k : Nat} {h : Hp} : Ct alC mX10_clear k [vR 10 0] h (Rv (sV (sX h 10 0 4 (nI 0)) 35 0 (fun _ => nI 0))) := by
  have L : ∀ t, t ≤ 8 → WP alC mX10_clear k (Rv (sV (sX h 10 0 4 (nI 0)) 35 0 (fun _ => nI 0))) 7 [some (vR 10 0), some (vI (nI t))] [] (sV (sX h 10 0 4 (nI 0)) 35 0 (zrF (h.1 35 0) t)) := by
    refine loop_up 8 ?_ (fun t ht ih => ?_)
    · refine wp_at tX10_clear [(26, [])] 20 7 okC kX10_clear ⟨fun _ => ?_, fun c => absurd (nI_le (Nat.le_refl 8) (by omega)) c⟩
      refine wp_eqv (h' := sV (sX h 10 0 4 (nI 0)) 35 0 (fun _ => nI 0)) (eqv_V (q := (0, 8, 0, 0, 0, 0)) rfl (fun j hj => if_pos hj)) ?_
      exact wp_at tX10_clear [] 20 26 okC kX10_clear rfl
    · refine wp_at tX10_clear [(7, [true, true])] 40 7 okC kX10_clear ⟨fun c => absurd c (nI_ge ht (by omega)), fun _ => ⟨ix1 8 ht, ?_⟩⟩
      rw [nI_clamp (by omega), sV_sX]
      rw [← nI_add t 1] at ih
      refine wp_h ?_ ih
      congr 1
      funext q
      unfold zrF
      by_cases c : q = t
      · subst c; rw [upd_s, if_pos (by omega)]
      · rw [upd_n c]
        by_cases c2 : q < t
        · rw [if_pos c2, if_pos (by omega)]
        · rw [if_neg c2, if_neg (by omega)]
  refine ct_vc tX10_clear [(7, [true, true])] 20 okC kX10_clear rfl ?_
  refine wp_h ?_ (L 0 (by omega))
  refine hp_eq (fun k' i' => ?_) rfl
  rw [rdV]
  split
  next c => obtain ⟨rfl, rfl⟩ := c; unfold sX; rw [rdV]; simp; rfl
  next => rfl
/-- above, after one is told to be above another: the first t cells done -/
def scF (ab : Nat → Int32) (one other t : Nat) : Nat → Int32 := fun q => if q < t ∧ (q = other ∨ hsB (ab q) other = true) then ab q ||| (ab one ||| bit one) else ab q
theorem c_scratch {k one other : Nat} {h : Hp} (h1 : one < 8) (h2 : other < 8) : Ct alC mX10_scratch (k + 1) [vR 10 0, vI (nI one), vI (nI other)] h (Rv (sX (sV h 35 0 (scF (h.1 35 0) one other 8)) 10 0 4 (h.1 10 0 4 + nI 1))) := by
  have L : ∀ t, t ≤ 8 → WP alC mX10_scratch (k + 1) (Rv (sX (sV h 35 0 (scF (h.1 35 0) one other 8)) 10 0 4 (h.1 10 0 4 + nI 1))) 14 [some (vR 10 0), none, some (vI (nI other)), some (vI (h.1 35 0 one ||| bit one)), some (vI (nI t))] [] (sV h 35 0 (scF (h.1 35 0) one other t)) := by
    refine loop_up 8 ?_ (fun t ht ih => ?_)
    · refine wp_at tX10_scratch [] 20 14 okC kX10_scratch ⟨fun _ => ?_, fun c => absurd (nI_le (Nat.le_refl 8) (by omega)) c⟩
      show sX (sV h 35 0 (scF (h.1 35 0) one other 8)) 10 0 4 ((sV h 35 0 (scF (h.1 35 0) one other 8)).1 10 0 4 + nI 1) = _
      rw [rdVj]
      simp
    · have et : (sV h 35 0 (scF (h.1 35 0) one other t)).1 35 0 = scF (h.1 35 0) one other t := sV_same
      have eq : scF (h.1 35 0) one other t t = h.1 35 0 t := if_neg (fun z => by omega)
      have yes : (t = other ∨ hsB (h.1 35 0 t) other = true) → WP alC mX10_scratch (k + 1) (Rv (sX (sV h 35 0 (scF (h.1 35 0) one other 8)) 10 0 4 (h.1 10 0 4 + nI 1))) 37 [some (vR 10 0), none, some (vI (nI other)), some (vI (h.1 35 0 one ||| bit one)), some (vI (nI t))] [] (sV h 35 0 (scF (h.1 35 0) one other t)) := by
        intro c
        refine wp_at tX10_scratch [(14, [true, false, true, true, true])] 20 37 okC kX10_scratch ⟨ix1 8 ht, ix1 8 ht, ?_⟩
        rw [nI_clamp (by omega), et, eq, sV_sX]
        rw [← nI_add t 1] at ih
        refine wp_h ?_ ih
        congr 1
        funext q
        unfold scF
        by_cases cq : q = t
        · subst cq; rw [upd_s, if_pos ⟨by omega, c⟩]
        · rw [upd_n cq]
          by_cases c2 : q < t ∧ (q = other ∨ hsB (h.1 35 0 q) other = true)
          · rw [if_pos c2, if_pos ⟨by omega, c2.2⟩]
          · rw [if_neg c2, if_neg (fun z => c2 ⟨by omega, z.2⟩)]
      have no : ¬ (t = other ∨ hsB (h.1 35 0 t) other = true) → WP alC mX10_scratch (k + 1) (Rv (sX (sV h 35 0 (scF (h.1 35 0) one other 8)) 10 0 4 (h.1 10 0 4 + nI 1))) 48 [some (vR 10 0), none, some (vI (nI other)), some (vI (h.1 35 0 one ||| bit one)), some (vI (nI t))] [] (sV h 35 0 (scF (h.1 35 0) one other t)) := by
        intro c
        refine wp_at tX10_scratch [(14, [true, false, true, true, true])] 20 48 okC kX10_scratch ?_
        rw [← nI_add t 1] at ih
        refine wp_h ?_ ih
        congr 1
        funext q
        unfold scF
        by_cases cq : q = t
        · subst cq; rw [if_neg (fun z => by omega), if_neg (fun z => c z.2)]
        · by_cases c2 : q < t ∧ (q = other ∨ hsB (h.1 35 0 q) other = true)
          · rw [if_pos c2, if_pos ⟨by omega, c2.2⟩]
          · rw [if_neg c2, if_neg (fun z => c2 ⟨by omega, z.2⟩)]
      refine wp_at tX10_scratch [(37, [true, false, true, true, true]), (48, [true, false, true, true, true])] 40 14 okC kX10_scratch ⟨fun c => absurd c (nI_ge ht (by omega)), fun _ => ⟨fun c => ?_, fun c => ⟨_, c_wisAbove ht, ?_⟩⟩⟩
      · exact yes (Or.inl (nI_inj (by omega) (by omega) c))
      · rintro v h' ⟨rfl, rfl⟩
        rw [et, eq]
        refine ⟨fun c2 => no (fun z => ?_), fun c2 => yes (Or.inr (b2_n0.mp c2))⟩
        rcases z with z | z
        · exact c (by rw [z])
        · rw [b2_0.mp c2] at z; cases z
  refine ct_vc tX10_scratch [(14, [true, false, true, true, true])] 20 okC kX10_scratch rfl ?_
  refine ⟨ix1 8 h1, ?_⟩
  rw [nI_clamp (by omega)]
  refine wp_h ?_ (L 0 (by omega))
  refine hp_eq (fun k' i' => ?_) rfl
  rw [rdV]
  split
  next c => obtain ⟨rfl, rfl⟩ := c; funext q; unfold scF; rw [if_neg (fun z => by omega)]
  next => rfl
/-- how many are below -/
def cbF (ab : Nat → Int32) (f n : Nat) : Int32 := smF (fun j => b2 (hsB (ab j) f)) n
theorem cbF_s (ab : Nat → Int32) (f t : Nat) : cbF ab f (t + 1) = cbF ab f t + b2 (hsB (ab t) f) := rfl
theorem c_countBelow {k f : Nat} {h : Hp} : Ct alC mX10_countBelow (k + 1) [vR 10 0, vI (nI f)] h (Rd h (cbF (h.1 35 0) f 8)) := by
  have L : ∀ t, t ≤ 8 → WP alC mX10_countBelow (k + 1) (Rd h (cbF (h.1 35 0) f 8)) 4 [some (vR 10 0), some (vI (nI f)), some (vI (cbF (h.1 35 0) f t)), some (vI (nI t))] [] h := by
    refine loop_up 8 ?_ (fun t ht ih => ?_)
    · exact wp_at tX10_countBelow [] 20 4 okC kX10_countBelow ⟨fun _ => ⟨rfl, rfl⟩, fun c => absurd (nI_le (Nat.le_refl 8) (by omega)) c⟩
    · refine wp_at tX10_countBelow [(4, [true, true, true, true])] 40 4 okC kX10_countBelow ⟨fun c => absurd c (nI_ge ht (by omega)), fun _ => ⟨_, c_wisAbove ht, ?_⟩⟩
      rintro v h' ⟨rfl, rfl⟩
      rw [cbF_s _ f t, ← nI_add t 1] at ih
      refine ⟨fun c => ?_, fun c => ?_⟩
      · rw [b2_0.mp c] at ih; exact ih
      · rw [b2_n0.mp c] at ih; exact ih
  exact ct_vc tX10_countBelow [(4, [true, true, true, true])] 20 okC kX10_countBelow rfl (L 0 (by omega))
/-- f may come next behind the set -/
def cfB (ab : Nat → Int32) (f : Nat) (set : Int32) : Bool := decide ((set >>> (nI f &&& 31)) &&& nI 1 = 0) && decide (ab f &&& (set ^^^ -(nI 1)) = 0)
theorem c_canFollow {k f : Nat} {h : Hp} {set : Int32} (hf : f < 8) : Ct alC mX10_canFollow k [vR 10 0, vI (nI f), vI set] h (Rd h (b2 (cfB (h.1 35 0) f set))) := by
  refine ct_vc tX10_canFollow [] 30 okC kX10_canFollow rfl ?_
  unfold cfB
  refine ⟨fun c => ⟨Or.inl rfl, bF (by rw [dF c]; rfl), rfl⟩, fun c => ⟨ix1 8 hf, ?_⟩⟩
  rw [nI_clamp (by omega)]
  exact ⟨fun c2 => ⟨Or.inl rfl, bF (by rw [dF c2, Bool.and_false]), rfl⟩, fun c2 => ⟨Or.inr rfl, bT (by rw [dT (nn c), dT (nn c2)]; rfl), rfl⟩⟩
/-- the least that may come next -/
def lnF (ab : Nat → Int32) (set : Int32) : Nat → Nat → Nat
  | 0, _ => 0
  | f + 1, i => if cfB ab i set = true then i else lnF ab set f (i + 1)
theorem c_leastNext {k : Nat} {h : Hp} {set : Int32} : Ct alC mX10_leastNext (k + 1) [vR 10 0, vI set] h (Rd h (nI (lnF (h.1 35 0) set 8 0))) := by
  have L : ∀ f i, i + f = 8 → lnF (h.1 35 0) set f i = lnF (h.1 35 0) set 8 0 → WP alC mX10_leastNext (k + 1) (Rd h (nI (lnF (h.1 35 0) set 8 0))) 2 [some (vR 10 0), some (vI set), some (vI (nI i))] [] h := by
    intro f
    induction f with
    | zero =>
      intro i hi e
      refine wp_at tX10_leastNext [] 20 2 okC kX10_leastNext ⟨fun _ => ?_, fun c => absurd (nI_le (by omega) (by omega)) c⟩
      rw [← e]
      exact ⟨rfl, rfl⟩
    | succ f ih =>
      intro i hi e
      refine wp_at tX10_leastNext [(2, [true, true, true])] 40 2 okC kX10_leastNext ⟨fun c => absurd c (nI_ge (by omega) (by omega)), fun _ => ⟨_, c_canFollow (by omega), ?_⟩⟩
      rintro v h' ⟨rfl, rfl⟩
      rw [lnF] at e
      refine ⟨fun c => ?_, fun c => ?_⟩
      · rw [if_neg (by rw [b2_0.mp c]; decide)] at e
        have := ih (i + 1) (by omega) e
        rw [← nI_add i 1] at this
        exact this
      · rw [if_pos (b2_n0.mp c)] at e
        rw [← e]
        exact ⟨rfl, rfl⟩
  exact ct_vc tX10_leastNext [(2, [true, true, true])] 20 okC kX10_leastNext rfl (L 8 0 rfl rfl)
/-! the counts of orders: sets are numbers below 2 ^ n -/
/-- how many orders have just these highest, as the loop over i goes on; ordersOf -/
def t2i (ab : Nat → Int32) (g : Nat → Int32) (s : Nat) : Nat → Nat → Int32
  | 0 => g
  | i + 1 => if cfB ab i (nI s) = true then upd (t2i ab g s i) (s ||| 2 ^ i) (t2i ab g s i (s ||| 2 ^ i) + t2i ab g s i s) else t2i ab g s i
def t2o (ab : Nat → Int32) (n : Nat) (g : Nat → Int32) : Nat → Nat → Int32
  | 0 => g
  | s + 1 => t2i ab (t2o ab n g s) s n
/-- ordersBehind: from the full set down; d sets are done -/
def t3i (ab : Nat → Int32) (g : Nat → Int32) (s : Nat) : Nat → Nat → Int32
  | 0 => g
  | i + 1 => if cfB ab i (nI s) = true then upd (t3i ab g s i) s (t3i ab g s i s + t3i ab g s i (s ||| 2 ^ i)) else t3i ab g s i
def t3o (ab : Nat → Int32) (n : Nat) (g : Nat → Int32) (all : Nat) : Nat → Nat → Int32
  | 0 => g
  | d + 1 => t3i ab (t3o ab n g all d) (all - d) n
/-- what the first loop lays -/
def t1F (f : Nat → Int32) (one t : Nat) : Nat → Int32 := fun q => if q < t then b2 (decide (q = one)) else f q
theorem t1F_s (f : Nat → Int32) (one t : Nat) : upd (t1F f one t) t (b2 (decide (t = one))) = t1F f one (t + 1) := by
  funext q
  unfold t1F
  by_cases c : q = t
  · subst c; rw [upd_s, if_pos (by omega)]
  · rw [upd_n c]
    by_cases c2 : q < t
    · rw [if_pos c2, if_pos (by omega)]
    · rw [if_neg c2, if_neg (by omega)]
theorem or_lt {s i n : Nat} (hs : s < 2 ^ n) (hi : i < n) : s ||| 2 ^ i < 2 ^ n := Nat.or_lt_two_pow hs (Nat.pow_lt_pow_right (by decide) hi)
theorem p2_le {n : Nat} (hn : n ≤ 8) : 2 ^ n ≤ 256 := Nat.pow_le_pow_right (by decide) hn
theorem or_nI {s i : Nat} (hi : i < 8) : nI s ||| nI 1 <<< (nI i &&& 31) = nI (s ||| 2 ^ i) := by
  rw [show nI 1 <<< (nI i &&& 31) = nI (2 ^ i) from bit_nI i (by omega), nI_or]
theorem all_nI {n : Nat} (hn : n ≤ 8) : nI 1 <<< (nI n &&& 31) - nI 1 = nI (2 ^ n - 1) := by
  rw [show nI 1 <<< (nI n &&& 31) = nI (2 ^ n) from bit_nI n (by omega)]
  exact pk_sub (Nat.one_le_two_pow)
end
section
/-! Wall.tally, ordersAt, ordersWithAbove -/
def hT (h : Hp) (n : Nat) (F G : Nat → Int32) : Hp := sV (sV (sX h 10 0 3 (nI n)) 36 0 F) 37 0 G
theorem hT_F {h : Hp} {n : Nat} {F G : Nat → Int32} : (hT h n F G).1 36 0 = F := by unfold hT; rw [rdV, rdV]; simp
theorem hT_G {h : Hp} {n : Nat} {F G : Nat → Int32} : (hT h n F G).1 37 0 = G := by unfold hT; rw [rdV]; simp
theorem hT_a {h : Hp} {n : Nat} {F G : Nat → Int32} : (hT h n F G).1 35 0 = h.1 35 0 := by unfold hT sX; rw [rdV, rdV, rdV]; simp
theorem hT_n {h : Hp} {n : Nat} {F G : Nat → Int32} : (hT h n F G).1 10 0 3 = nI n := by unfold hT; rw [rdVj, rdVj, rdX]; simp
theorem hT_wF {h : Hp} {n j : Nat} {F G : Nat → Int32} {x : Int32} : sX (hT h n F G) 36 0 j x = hT h n (upd F j x) G := by
  unfold sX
  rw [hT_F]
  unfold hT
  refine hp_eq (fun k' i' => ?_) rfl
  simp only [rdV]
  by_cases c1 : k' = 36 ∧ i' = 0
  · obtain ⟨rfl, rfl⟩ := c1; simp
  · by_cases c2 : k' = 37 ∧ i' = 0
    · obtain ⟨rfl, rfl⟩ := c2; simp
    · rw [if_neg c1, if_neg c2, if_neg c2, if_neg c1, if_neg c1]
theorem hT_wG {h : Hp} {n j : Nat} {F G : Nat → Int32} {x : Int32} : sX (hT h n F G) 37 0 j x = hT h n F (upd G j x) := by
  unfold sX
  rw [hT_G]
  unfold hT
  rw [sV_sV]
/-- the set of the third loop when d are done -/
def svF (all d : Nat) : Int32 := if d = all + 1 then -(nI 1) else nI (all - d)
theorem c_tally {k n : Nat} {h : Hp} (hn : n ≤ 8) (F1 G1 F2 G2 : Nat → Int32) (e1 : F1 = t1F (h.1 36 0) 0 (2 ^ n)) (e2 : G1 = t1F (h.1 37 0) (2 ^ n - 1) (2 ^ n)) (e3 : F2 = t2o (h.1 35 0) n F1 (2 ^ n)) (e4 : G2 = t3o (h.1 35 0) n G1 (2 ^ n - 1) (2 ^ n)) : Ct alC mX10_tally (k + 1) [vR 10 0, vI (nI n)] h (Rt (F2 (2 ^ n - 1)) (hT h n F2 G2)) := by
  have hp := p2_le hn
  have hp0 : 0 < 2 ^ n := Nat.two_pow_pos n
  have hF0 : (sX h 10 0 3 (nI n)).1 36 0 = h.1 36 0 := by unfold sX; rw [rdV]; simp
  have hG0 : (sX h 10 0 3 (nI n)).1 37 0 = h.1 37 0 := by unfold sX; rw [rdV]; simp
  -- the third loop
  have L3 : ∀ d, d ≤ 2 ^ n → WP alC mX10_tally (k + 1) (Rt (F2 (2 ^ n - 1)) (hT h n F2 G2)) 115 [some (vR 10 0), some (vI (nI n)), some (vI (nI (2 ^ n - 1))), some (vI (svF (2 ^ n - 1) d)), none] [] (hT h n F2 (t3o (h.1 35 0) n G1 (2 ^ n - 1) d)) := by
    refine loop_up (2 ^ n) ?_ (fun d hd ih => ?_)
    · refine wp_at tX10_tally [] 40 115 okC kX10_tally ⟨fun _ => ⟨ix1 256 (by omega), ?_⟩, fun c => ?_⟩
      · rw [hT_F, nI_clamp (by omega), ← e4]
        exact ⟨rfl, rfl⟩
      · exfalso
        unfold svF at c
        rw [if_pos (by omega)] at c
        exact c (by decide)
    · have es : svF (2 ^ n - 1) d = nI (2 ^ n - 1 - d) := if_neg (by omega)
      have hI : ∀ i, i ≤ n → WP alC mX10_tally (k + 1) (Rt (F2 (2 ^ n - 1)) (hT h n F2 G2)) 122 [some (vR 10 0), some (vI (nI n)), some (vI (nI (2 ^ n - 1))), some (vI (nI (2 ^ n - 1 - d))), some (vI (nI i))] [] (hT h n F2 (t3i (h.1 35 0) (t3o (h.1 35 0) n G1 (2 ^ n - 1) d) (2 ^ n - 1 - d) i)) := by
        refine loop_up n ?_ (fun i hi ih2 => ?_)
        · refine wp_at tX10_tally [(115, [true, true, true, true, false])] 20 122 okC kX10_tally ⟨fun _ => ?_, fun c => absurd (nI_le (Nat.le_refl n) (by omega)) c⟩
          have ev : svF (2 ^ n - 1) (d + 1) = nI (2 ^ n - 1 - d) + -(nI 1) := by
            unfold svF
            by_cases c : d + 1 = 2 ^ n - 1 + 1
            · rw [if_pos c, show 2 ^ n - 1 - d = 0 by omega]; decide
            · rw [if_neg c, show 2 ^ n - 1 - d = (2 ^ n - 1 - (d + 1)) + 1 by omega]
              exact (pk_m1 _).symm
          rw [ev] at ih
          exact ih
        · refine wp_at tX10_tally [(122, [true, true, true, true, true])] 60 122 okC kX10_tally ⟨fun c => absurd c (nI_ge hi (by omega)), fun _ => ⟨_, c_canFollow (by omega), ?_⟩⟩
          rintro v h' ⟨rfl, rfl⟩
          rw [hT_a, ← nI_add i 1] at *
          rw [t3i] at ih2
          refine ⟨fun c => ?_, fun c => ?_⟩
          · rw [if_neg (by rw [b2_0.mp c]; decide)] at ih2
            exact ih2
          · rw [if_pos (b2_n0.mp c)] at ih2
            have hol : (2 ^ n - 1 - d) ||| 2 ^ i < 2 ^ n := or_lt (by omega) hi
            refine ⟨ix1 256 (by omega), ?_, ix1 256 (by omega), ?_⟩
            · rw [or_nI (by omega)]; exact ix1 256 (by omega)
            · rw [or_nI (by omega), nI_clamp (by omega), nI_clamp (by omega), hT_G, hT_wG]
              exact ih2
      refine wp_at tX10_tally [(122, [true, true, true, true, true])] 20 115 okC kX10_tally ⟨fun c => ?_, fun _ => ?_⟩
      · exact absurd c (by rw [es]; exact nI_pos (by omega))
      · have := hI 0 (Nat.zero_le n)
        rw [← es] at this
        exact this
  -- the second loop
  have L2 : ∀ s, s ≤ 2 ^ n → WP alC mX10_tally (k + 1) (Rt (F2 (2 ^ n - 1)) (hT h n F2 G2)) 57 [some (vR 10 0), some (vI (nI n)), some (vI (nI (2 ^ n - 1))), some (vI (nI s)), none] [] (hT h n (t2o (h.1 35 0) n F1 s) G1) := by
    refine loop_up (2 ^ n) ?_ (fun s hs ih => ?_)
    · refine wp_at tX10_tally [(115, [true, true, true, true, false])] 20 57 okC kX10_tally ⟨fun _ => ?_, fun c => absurd (nI_lt (by omega) (by omega)) c⟩
      have := L3 0 (by omega)
      rw [show svF (2 ^ n - 1) 0 = nI (2 ^ n - 1) from if_neg (by omega)] at this
      rw [← e3]
      exact this
    · have hI : ∀ i, i ≤ n → WP alC mX10_tally (k + 1) (Rt (F2 (2 ^ n - 1)) (hT h n F2 G2)) 65 [some (vR 10 0), some (vI (nI n)), some (vI (nI (2 ^ n - 1))), some (vI (nI s)), some (vI (nI i))] [] (hT h n (t2i (h.1 35 0) (t2o (h.1 35 0) n F1 s) s i) G1) := by
        refine loop_up n ?_ (fun i hi ih2 => ?_)
        · refine wp_at tX10_tally [(57, [true, true, true, true, false])] 20 65 okC kX10_tally ⟨fun _ => ?_, fun c => absurd (nI_le (Nat.le_refl n) (by omega)) c⟩
          rw [← nI_add s 1] at ih
          exact ih
        · refine wp_at tX10_tally [(65, [true, true, true, true, true])] 60 65 okC kX10_tally ⟨fun c => absurd c (nI_ge hi (by omega)), fun _ => ⟨_, c_canFollow (by omega), ?_⟩⟩
          rintro v h' ⟨rfl, rfl⟩
          rw [hT_a, ← nI_add i 1] at *
          rw [t2i] at ih2
          refine ⟨fun c => ?_, fun c => ?_⟩
          · rw [if_neg (by rw [b2_0.mp c]; decide)] at ih2
            exact ih2
          · rw [if_pos (b2_n0.mp c)] at ih2
            have hol : s ||| 2 ^ i < 2 ^ n := or_lt hs hi
            refine ⟨by rw [or_nI (by omega)]; exact ix1 256 (by omega), ix1 256 (by omega), by rw [or_nI (by omega)]; exact ix1 256 (by omega), ?_⟩
            rw [or_nI (by omega), nI_clamp (by omega), nI_clamp (by omega), hT_F, hT_wF]
            exact ih2
      refine wp_at tX10_tally [(65, [true, true, true, true, true])] 20 57 okC kX10_tally ⟨fun c => ?_, fun _ => ?_⟩
      · exfalso
        rw [nI_ltI (by omega) (by omega)] at c
        omega
      · exact hI 0 (Nat.zero_le n)
  -- the first
  have L1 : ∀ t, t ≤ 2 ^ n → WP alC mX10_tally (k + 1) (Rt (F2 (2 ^ n - 1)) (hT h n F2 G2)) 13 [some (vR 10 0), some (vI (nI n)), some (vI (nI (2 ^ n - 1))), some (vI (nI t)), none] [] (hT h n (t1F (h.1 36 0) 0 t) (t1F (h.1 37 0) (2 ^ n - 1) t)) := by
    refine loop_up (2 ^ n) ?_ (fun t ht ih => ?_)
    · refine wp_at tX10_tally [(57, [true, true, true, true, false])] 20 13 okC kX10_tally ⟨fun _ => ?_, fun c => absurd (nI_lt (by omega) (by omega)) c⟩
      rw [← e1, ← e2]
      exact L2 0 (by omega)
    · rw [← nI_add t 1] at ih
      have fin : ∀ x y : Int32, x = b2 (decide (t = 0)) → y = b2 (decide (t = 2 ^ n - 1)) → hT h n (upd (t1F (h.1 36 0) 0 t) t x) (upd (t1F (h.1 37 0) (2 ^ n - 1) t) t y) = hT h n (t1F (h.1 36 0) 0 (t + 1)) (t1F (h.1 37 0) (2 ^ n - 1) (t + 1)) := by
        rintro x y rfl rfl
        rw [t1F_s, t1F_s]
      have two : ∀ x : Int32, x = b2 (decide (t = 0)) → WP alC mX10_tally (k + 1) (Rt (F2 (2 ^ n - 1)) (hT h n F2 G2)) 33 [some (vR 10 0), some (vI (nI n)), some (vI (nI (2 ^ n - 1))), some (vI (nI t)), none] [] (hT h n (upd (t1F (h.1 36 0) 0 t) t x) (t1F (h.1 37 0) (2 ^ n - 1) t)) := by
        intro x hx
        refine wp_at tX10_tally [(13, [true, true, true, true, false])] 40 33 okC kX10_tally ⟨fun c => ⟨ix1 256 (by omega), ?_⟩, fun c => ⟨ix1 256 (by omega), ?_⟩⟩
        · rw [nI_clamp (by omega), hT_wG, fin x (nI 0) hx (by rw [dF (fun z => c (by rw [z]))]; rfl)]
          exact ih
        · rw [nI_clamp (by omega), hT_wG, fin x (nI 1) hx (by rw [dT (nI_inj (by omega) (by omega) (nn c))]; rfl)]
          exact ih
      refine wp_at tX10_tally [(33, [true, true, true, true, false])] 40 13 okC kX10_tally ⟨fun c => ?_, fun _ => ⟨fun c => ⟨ix1 256 (by omega), ?_⟩, fun c => ⟨ix1 256 (by omega), ?_⟩⟩⟩
      · exfalso
        rw [nI_ltI (by omega) (by omega)] at c
        omega
      · rw [nI_clamp (by omega), hT_wF]
        exact two (nI 0) (by rw [dF (fun z => c (by rw [z]; rfl))]; rfl)
      · rw [nI_clamp (by omega), hT_wF]
        exact two (nI 1) (by rw [dT (nI_inj (b := 0) (by omega) (by omega) (nn c))]; rfl)
  refine ct_vc tX10_tally [(13, [true, true, true, true, false])] 20 okC kX10_tally rfl ?_
  have := L1 0 (by omega)
  rw [← all_nI hn] at this
  refine wp_h ?_ this
  have z1 : t1F (h.1 36 0) 0 0 = h.1 36 0 := by funext q; exact if_neg (by omega)
  have z2 : t1F (h.1 37 0) (2 ^ n - 1) 0 = h.1 37 0 := by funext q; exact if_neg (by omega)
  rw [z1, z2]
  unfold hT
  refine hp_eq (fun k' i' => ?_) rfl
  simp only [rdV]
  by_cases c2 : k' = 37 ∧ i' = 0
  · obtain ⟨rfl, rfl⟩ := c2; rw [if_pos ⟨rfl, rfl⟩]; exact hG0
  · rw [if_neg c2]
    by_cases c1 : k' = 36 ∧ i' = 0
    · obtain ⟨rfl, rfl⟩ := c1; rw [if_pos ⟨rfl, rfl⟩]; exact hF0
    · rw [if_neg c1]
/-- orders with f at a place: sets of that size ahead of him -/
def oaF (ab O B : Nat → Int32) (f : Nat) (pl : Int32) : Nat → Int32
  | 0 => nI 0
  | s + 1 => if bcF (nI s) = pl ∧ cfB ab f (nI s) = true then oaF ab O B f pl s + O s * B (s ||| 2 ^ f) else oaF ab O B f pl s
theorem c_ordersAt {k n f : Nat} {h : Hp} {pl : Int32} (hn : n ≤ 8) (hf : f < n) (hc : h.1 10 0 3 = nI n) : Ct alC mX10_ordersAt (k + 1) [vR 10 0, vI (nI f), vI pl] h (Rd h (oaF (h.1 35 0) (h.1 36 0) (h.1 37 0) f pl (2 ^ n))) := by
  have hp := p2_le hn
  have hp0 : 0 < 2 ^ n := Nat.two_pow_pos n
  have e1 : nI 1 <<< (h.1 10 0 3 &&& 31) = nI (2 ^ n) := by rw [hc]; exact bit_nI n (by omega)
  have L : ∀ t, t ≤ 2 ^ n → WP alC mX10_ordersAt (k + 1) (Rd h (oaF (h.1 35 0) (h.1 36 0) (h.1 37 0) f pl (2 ^ n))) 5 [some (vR 10 0), some (vI (nI f)), some (vI pl), some (vI (oaF (h.1 35 0) (h.1 36 0) (h.1 37 0) f pl t)), some (vI (nI t))] [] h := by
    refine loop_up (2 ^ n) ?_ (fun t ht ih => ?_)
    · exact wp_at tX10_ordersAt [] 20 5 okC kX10_ordersAt ⟨fun _ => ⟨rfl, rfl⟩, fun c => absurd (by rw [e1]; exact nI_le (Nat.le_refl _) (by omega)) c⟩
    · rw [← nI_add t 1] at ih
      refine wp_at tX10_ordersAt [(5, [true, true, true, true, true])] 60 5 okC kX10_ordersAt ⟨fun c => absurd c (by rw [e1]; exact nI_ge ht (by omega)), fun _ => ⟨_, c_bitCount okC, ?_⟩⟩
      rintro v h' ⟨rfl, rfl⟩
      rw [oaF] at ih
      refine ⟨fun c => ?_, fun c => ⟨_, c_canFollow (by omega), ?_⟩⟩
      · rw [if_neg (fun z => c z.1)] at ih
        exact ih
      · rintro v h' ⟨rfl, rfl⟩
        refine ⟨fun c2 => ?_, fun c2 => ?_⟩
        · rw [if_neg (fun z => by rw [b2_0.mp c2] at z; cases z.2)] at ih
          exact ih
        · rw [if_pos ⟨nn c, b2_n0.mp c2⟩] at ih
          have hol : t ||| 2 ^ f < 2 ^ n := or_lt ht hf
          refine ⟨ix1 256 (by omega), by rw [or_nI (by omega)]; exact ix1 256 (by omega), ?_⟩
          rw [or_nI (by omega), nI_clamp (by omega), nI_clamp (by omega)]
          exact ih
  exact ct_vc tX10_ordersAt [(5, [true, true, true, true, true])] 20 okC kX10_ordersAt rfl (L 0 (by omega))
/-- orders with one above another -/
def owF (ab O B : Nat → Int32) (one oth : Nat) : Nat → Int32
  | 0 => nI 0
  | s + 1 => if hsB (nI s) one = true ∧ cfB ab oth (nI s) = true then owF ab O B one oth s + O s * B (s ||| 2 ^ oth) else owF ab O B one oth s
theorem c_ordersWithAbove {k n one oth : Nat} {h : Hp} (hn : n ≤ 8) (hf : oth < n) (hc : h.1 10 0 3 = nI n) : Ct alC mX10_ordersWithAbove (k + 1) [vR 10 0, vI (nI one), vI (nI oth)] h (Rd h (owF (h.1 35 0) (h.1 36 0) (h.1 37 0) one oth (2 ^ n))) := by
  have hp := p2_le hn
  have hp0 : 0 < 2 ^ n := Nat.two_pow_pos n
  have e1 : nI 1 <<< (h.1 10 0 3 &&& 31) = nI (2 ^ n) := by rw [hc]; exact bit_nI n (by omega)
  have L : ∀ t, t ≤ 2 ^ n → WP alC mX10_ordersWithAbove (k + 1) (Rd h (owF (h.1 35 0) (h.1 36 0) (h.1 37 0) one oth (2 ^ n))) 5 [some (vR 10 0), some (vI (nI one)), some (vI (nI oth)), some (vI (owF (h.1 35 0) (h.1 36 0) (h.1 37 0) one oth t)), some (vI (nI t))] [] h := by
    refine loop_up (2 ^ n) ?_ (fun t ht ih => ?_)
    · exact wp_at tX10_ordersWithAbove [] 20 5 okC kX10_ordersWithAbove ⟨fun _ => ⟨rfl, rfl⟩, fun c => absurd (by rw [e1]; exact nI_le (Nat.le_refl _) (by omega)) c⟩
    · rw [← nI_add t 1] at ih
      rw [owF] at ih
      refine wp_at tX10_ordersWithAbove [(5, [true, true, true, true, true])] 60 5 okC kX10_ordersWithAbove ⟨fun c => absurd c (by rw [e1]; exact nI_ge ht (by omega)), fun _ => ⟨fun c => ?_, fun c => ⟨_, c_canFollow (by omega), ?_⟩⟩⟩
      · rw [if_neg (fun z => c (of_decide_eq_true z.1))] at ih
        exact ih
      · rintro v h' ⟨rfl, rfl⟩
        refine ⟨fun c2 => ?_, fun c2 => ?_⟩
        · rw [if_neg (fun z => by rw [b2_0.mp c2] at z; cases z.2)] at ih
          exact ih
        · rw [if_pos ⟨dT (nn c), b2_n0.mp c2⟩] at ih
          have hol : t ||| 2 ^ oth < 2 ^ n := or_lt ht hf
          refine ⟨ix1 256 (by omega), by rw [or_nI (by omega)]; exact ix1 256 (by omega), ?_⟩
          rw [or_nI (by omega), nI_clamp (by omega), nI_clamp (by omega)]
          exact ih
  exact ct_vc tX10_ordersWithAbove [(5, [true, true, true, true, true])] 20 okC kX10_ordersWithAbove rfl (L 0 (by omega))
end
section
/-! class Hearsay -/
def hcB (kd v : Int32) : Bool := if kd = nI 0 then decide (0 ≤ v) && decide (v ≤ nI 3) else if kd = nI 1 then decide (0 ≤ v) && decide (v ≤ nI 99) else if kd = nI 2 then decide (0 ≤ v) && decide (v < nI 4) else if kd = nI 3 then decide (nI 1 ≤ v) && decide (v ≤ nI 9) else if kd = nI 4 then decide (v = 0) || decide (v = nI 1) else false
theorem c_canBe {k : Nat} {h : Hp} {kd v : Int32} : Ct alC mX2_canBe k [vI kd, vI v] h (Rd h (b2 (hcB kd v))) := by
  refine ct_vc tX2_canBe [] 30 okC kX2_canBe rfl ?_
  unfold hcB
  refine ⟨fun e => ?_, fun e0 => ⟨fun e => ?_, fun e1 => ⟨fun e => ?_, fun e2 => ⟨fun e => ?_, fun e3 => ⟨fun e => ?_, fun e4 => ?_⟩⟩⟩⟩⟩
  · rw [if_pos e]
    exact ⟨fun c => ⟨Or.inl rfl, bF (by rw [dF (fun z => (i_ltn z) c)]; rfl), rfl⟩, fun c => ⟨fun c2 => ⟨Or.inl rfl, bF (by rw [dF (i_len c2), Bool.and_false]), rfl⟩, fun c2 => ⟨Or.inr rfl, bT (by rw [dT (i_nlt c), dT (i_nlt c2)]; rfl), rfl⟩⟩⟩
  · rw [if_neg e0, if_pos e]
    exact ⟨fun c => ⟨Or.inl rfl, bF (by rw [dF (fun z => (i_ltn z) c)]; rfl), rfl⟩, fun c => ⟨fun c2 => ⟨Or.inl rfl, bF (by rw [dF (i_len c2), Bool.and_false]), rfl⟩, fun c2 => ⟨Or.inr rfl, bT (by rw [dT (i_nlt c), dT (i_nlt c2)]; rfl), rfl⟩⟩⟩
  · rw [if_neg e0, if_neg e1, if_pos e]
    exact ⟨fun c => ⟨Or.inl rfl, bF (by rw [dF (fun z => (i_ltn z) c)]; rfl), rfl⟩, fun c => ⟨fun c2 => ⟨Or.inl rfl, bF (by rw [dF (i_ltn c2), Bool.and_false]), rfl⟩, fun c2 => ⟨Or.inr rfl, bT (by rw [dT (i_nlt c), dT (i_nle c2)]; rfl), rfl⟩⟩⟩
  · rw [if_neg e0, if_neg e1, if_neg e2, if_pos e]
    exact ⟨fun c => ⟨Or.inl rfl, bF (by rw [dF (i_len c)]; rfl), rfl⟩, fun c => ⟨fun c2 => ⟨Or.inl rfl, bF (by rw [dF (i_len c2), Bool.and_false]), rfl⟩, fun c2 => ⟨Or.inr rfl, bT (by rw [dT (i_nlt c), dT (i_nlt c2)]; rfl), rfl⟩⟩⟩
  · rw [if_neg e0, if_neg e1, if_neg e2, if_neg e3, if_pos e]
    exact ⟨fun c => ⟨Or.inr rfl, bT (by rw [dT c]; rfl), rfl⟩, fun c => ⟨fun c2 => ⟨Or.inl rfl, bF (by rw [dF c, dF c2]; rfl), rfl⟩, fun c2 => ⟨Or.inr rfl, bT (by rw [dT (nn c2), Bool.or_true]), rfl⟩⟩⟩
  · rw [if_neg e0, if_neg e1, if_neg e2, if_neg e3, if_neg e4]
    exact ⟨Or.inl rfl, rfl, rfl⟩
/-- one more is heard -/
def hAdd (h : Hp) (m : Nat) (kd v : Int32) : Hp := sX (sX (sX h 20 0 m kd) 21 0 m v) 2 0 2 (nI (m + 1))
theorem c_hadd {k m : Nat} {h : Hp} {kd v : Int32} (hm : h.1 2 0 2 = nI m) (hm2 : m ≤ 12) : Ct alC mX2_add (k + 1) [vR 2 0, vI kd, vI v] h (Rt (b2 (decide (m < 12) && hcB kd v)) (if (decide (m < 12) && hcB kd v) = true then hAdd h m kd v else h)) := by
  refine ct_vc tX2_add [] 40 okC kX2_add rfl ?_
  refine ⟨fun c => ⟨Or.inl rfl, ?_⟩, fun c => ⟨_, c_canBe, ?_⟩⟩
  · rw [hm, nI_leI (by omega) (by omega)] at c
    rw [dF (by omega)]
    exact ⟨rfl, rfl⟩
  · rw [hm, nI_leI (by omega) (by omega)] at c
    rintro v h' ⟨rfl, rfl⟩
    refine ⟨fun c2 => ⟨?_, ?_, Or.inr rfl, ?_⟩, fun c2 => ⟨Or.inl rfl, ?_⟩⟩
    · rw [hm]; exact ix1 12 (by omega)
    · rw [rdX]; simp only [hm]; exact ix1 12 (by omega)
    · have e3 : (sX h' 20 0 m kd).1 2 0 2 = nI m := by rw [rdX]; simp [hm]
      have e4 : (sX (sX h' 20 0 m kd) 21 0 m v).1 2 0 2 = nI m := by rw [rdX]; simp [e3]
      rw [dT (show m < 12 by omega), b2_n0.mp c2, hm, nI_clamp (by omega), e3, nI_clamp (by omega), e4, nI_add]
      exact ⟨rfl, rfl⟩
    · rw [b2_0.mp (nn c2), Bool.and_false]
      exact ⟨rfl, rfl⟩
/-- what was heard fits -/
def foB (kd v : Int32) (R : Nat → Nat → Int32) (s : Nat → Int32) (j : Nat) : Bool := if kd = nI 0 then decide (R 0 j = v) else if kd = nI 1 then decide (v ≤ s j) else if kd = nI 2 then decide (R 3 j = v) else if kd = nI 3 then decide (R 2 j ≤ v) else decide (decide (s (32 + j) = nI 1) = decide (v = nI 1))
abbrev ro (h : Hp) (q : Nat) : Nat → Nat → Int32 := fun p => h.1 38 (5 * q + p)
theorem c_fitsOne {k q i j t : Nat} {h : Hp} (hj : j < 8) (ht : t < 12) : Ct alC mX2_fitsOne (k + 2) [vR 2 0, vR 3 q, vR 8 i, vI (nI j), vI (nI t)] h (Rd h (b2 (foB (h.1 20 0 t) (h.1 21 0 t) (ro h q) (h.1 33 i) j))) := by
  refine ct_vc tX2_fitsOne [] 60 okC kX2_fitsOne rfl ?_
  refine ⟨ix1 12 ht, ix1 12 ht, ?_⟩
  rw [nI_clamp (by omega)]
  unfold foB
  refine ⟨fun e => ⟨_, c_of (by omega) hj, ?_⟩, fun e0 => ⟨fun e => ⟨_, c_favour hj, ?_⟩, fun e1 => ⟨fun e => ⟨_, c_of (by omega) hj, ?_⟩, fun e2 => ⟨fun e => ⟨_, c_of (by omega) hj, ?_⟩, fun e3 => ⟨_, c_isDead hj, ?_⟩⟩⟩⟩⟩
  · rintro v h' ⟨rfl, rfl⟩
    rw [if_pos e]
    exact ⟨fun c => ⟨Or.inl rfl, bF (dF c), rfl⟩, fun c => ⟨Or.inr rfl, bT (dT (nn c)), rfl⟩⟩
  · rintro v h' ⟨rfl, rfl⟩
    rw [if_neg e0, if_pos e]
    exact ⟨fun c => ⟨Or.inl rfl, bF (dF (i_len c)), rfl⟩, fun c => ⟨Or.inr rfl, bT (dT (i_nlt c)), rfl⟩⟩
  · rintro v h' ⟨rfl, rfl⟩
    rw [if_neg e0, if_neg e1, if_pos e]
    exact ⟨fun c => ⟨Or.inl rfl, bF (dF c), rfl⟩, fun c => ⟨Or.inr rfl, bT (dT (nn c)), rfl⟩⟩
  · rintro v h' ⟨rfl, rfl⟩
    rw [if_neg e0, if_neg e1, if_neg e2, if_pos e]
    exact ⟨fun c => ⟨Or.inl rfl, bF (dF (i_len c)), rfl⟩, fun c => ⟨Or.inr rfl, bT (dT (i_nlt c)), rfl⟩⟩
  · rintro v h' ⟨rfl, rfl⟩
    rw [if_neg e0, if_neg e1, if_neg e2, if_neg e3]
    refine ⟨fun c => ⟨fun c2 => ⟨Or.inl rfl, bF (dF ?_), rfl⟩, fun c2 => ⟨Or.inr rfl, bT (dT ?_), rfl⟩⟩, fun c => ⟨fun c2 => ⟨Or.inl rfl, bF (dF ?_), rfl⟩, fun c2 => ⟨Or.inr rfl, bT (dT ?_), rfl⟩⟩⟩
    · rw [dF c]; intro z; rw [z] at c2; exact c2 rfl
    · rw [dF c]; exact b2_0.mp (nn c2)
    · rw [dT (nn c)]; intro z; rw [z] at c2; exact c2 rfl
    · rw [dT (nn c)]
      have c3 := nn c2
      cases hb : decide (h'.1 33 i (32 + j) = nI 1) with
      | true => rfl
      | false => rw [hb] at c3; exact absurd c3 (by decide)
def alF (g : Nat → Bool) : Nat → Bool
  | 0 => true
  | n + 1 => alF g n && g n
theorem alF_no {g : Nat → Bool} {i : Nat} (hg : g i = false) : ∀ {n : Nat}, i < n → alF g n = false
  | 0, h => by omega
  | n + 1, h => by
    rw [alF]
    by_cases c : i = n
    · rw [← c, hg, Bool.and_false]
    · rw [alF_no hg (show i < n by omega)]; rfl
theorem alF_iff {g : Nat → Bool} : ∀ {n : Nat}, alF g n = true ↔ ∀ j, j < n → g j = true
  | 0 => ⟨fun _ j hj => by omega, fun _ => rfl⟩
  | n + 1 => by
    rw [alF, Bool.and_eq_true, alF_iff]
    constructor
    · rintro ⟨h1, h2⟩ j hj
      by_cases c : j = n
      · rw [c]; exact h2
      · exact h1 j (by omega)
    · intro h1
      exact ⟨fun j hj => h1 j (by omega), h1 n (by omega)⟩
def faB (K V : Nat → Int32) (R : Nat → Nat → Int32) (s : Nat → Int32) (m j : Nat) : Bool := alF (fun t => foB (K t) (V t) R s j) m
theorem c_fitsAll {k q i j m : Nat} {h : Hp} (hm : h.1 2 0 2 = nI m) (hm2 : m ≤ 12) (hj : j < 8) : Ct alC mX2_fitsAll (k + 3) [vR 2 0, vR 3 q, vR 8 i, vI (nI j)] h (Rd h (b2 (faB (h.1 20 0) (h.1 21 0) (ro h q) (h.1 33 i) m j))) := by
  have L : ∀ t, t ≤ m → alF (fun t => foB (h.1 20 0 t) (h.1 21 0 t) (ro h q) (h.1 33 i) j) t = true → WP alC mX2_fitsAll (k + 3) (Rd h (b2 (faB (h.1 20 0) (h.1 21 0) (ro h q) (h.1 33 i) m j))) 3 [some (vR 2 0), some (vR 3 q), some (vR 8 i), some (vI (nI j)), some (vI (nI t))] [] h := by
    refine loop_up m ?_ (fun t ht ih => ?_)
    · intro ha
      refine wp_at tX2_fitsAll [] 20 3 okC kX2_fitsAll ⟨fun _ => ⟨Or.inr rfl, bT ha, rfl⟩, fun c => absurd (by rw [hm]; exact nI_le (Nat.le_refl _) (by omega)) c⟩
    · intro ha
      refine wp_at tX2_fitsAll [(3, [true, true, true, true, true])] 40 3 okC kX2_fitsAll ⟨fun c => absurd c (by rw [hm]; exact nI_ge ht (by omega)), fun _ => ⟨_, c_fitsOne hj (by omega), ?_⟩⟩
      rintro v h' ⟨rfl, rfl⟩
      refine ⟨fun c => ?_, fun c => ⟨Or.inl rfl, bF (alF_no (g := fun t => foB (h'.1 20 0 t) (h'.1 21 0 t) (ro h' q) (h'.1 33 i) j) (i := t) (b2_0.mp (nn c)) ht), rfl⟩⟩
      have := ih (by rw [alF, ha, b2_n0.mp c]; rfl)
      rw [← nI_add t 1] at this
      exact this
  exact ct_vc tX2_fitsAll [(3, [true, true, true, true, true])] 20 okC kX2_fitsAll rfl (L 0 (by omega) rfl)
def ftF (K V : Nat → Int32) (R : Nat → Nat → Int32) (s : Nat → Int32) (m n : Nat) : Int32 := orF (fun j => if faB K V R s m j = true then bit j else nI 0) n
theorem ftF_s (K V : Nat → Int32) (R : Nat → Nat → Int32) (s : Nat → Int32) (m t : Nat) : ftF K V R s m (t + 1) = ftF K V R s m t ||| (if faB K V R s m t = true then bit t else nI 0) := rfl
theorem c_fitting {k q i m n : Nat} {h : Hp} (hm : h.1 2 0 2 = nI m) (hm2 : m ≤ 12) (hc : h.1 3 q 3 = nI n) (hn : n ≤ 8) : Ct alC mX2_fitting (k + 4) [vR 2 0, vR 3 q, vR 8 i] h (Rd h (ftF (h.1 20 0) (h.1 21 0) (ro h q) (h.1 33 i) m n)) := by
  have L : ∀ t, t ≤ n → WP alC mX2_fitting (k + 4) (Rd h (ftF (h.1 20 0) (h.1 21 0) (ro h q) (h.1 33 i) m n)) 5 [some (vR 2 0), some (vR 3 q), some (vR 8 i), some (vI (ftF (h.1 20 0) (h.1 21 0) (ro h q) (h.1 33 i) m t)), some (vI (nI t))] [] h := by
    refine loop_up n ?_ (fun t ht ih => ?_)
    · exact wp_at tX2_fitting [] 20 5 okC kX2_fitting ⟨fun _ => ⟨rfl, rfl⟩, fun c => absurd (by rw [hc]; exact nI_le (Nat.le_refl _) (by omega)) c⟩
    · refine wp_at tX2_fitting [(5, [true, true, true, true, true])] 40 5 okC kX2_fitting ⟨fun c => absurd c (by rw [hc]; exact nI_ge ht (by omega)), fun _ => ⟨_, c_fitsAll hm hm2 (by omega), ?_⟩⟩
      rintro v h' ⟨rfl, rfl⟩
      rw [ftF_s, ← nI_add t 1] at ih
      refine ⟨fun c => ?_, fun c => ?_⟩
      · rw [if_neg (by rw [b2_0.mp c]; decide)] at ih; exact ih
      · rw [if_pos (b2_n0.mp c)] at ih; exact ih
  exact ct_vc tX2_fitting [(5, [true, true, true, true, true])] 20 okC kX2_fitting rfl (L 0 (Nat.zero_le n))
def chF (R : Nat → Nat → Int32) (x set : Int32) (n : Nat) : Int32 := smF (fun j => if R 2 j ≤ x then (set >>> (nI j &&& 31)) &&& nI 1 else nI 0) n
theorem chF_s (R : Nat → Nat → Int32) (x set : Int32) (t : Nat) : chF R x set (t + 1) = chF R x set t + (if R 2 t ≤ x then (set >>> (nI t &&& 31)) &&& nI 1 else nI 0) := rfl
theorem c_countHiredFor {k q n : Nat} {h : Hp} {x set : Int32} (hc : h.1 3 q 3 = nI n) (hn : n ≤ 8) : Ct alC mX2_countHiredFor (k + 1) [vR 2 0, vI x, vR 3 q, vI set] h (Rd h (chF (ro h q) x set n)) := by
  have L : ∀ t, t ≤ n → WP alC mX2_countHiredFor (k + 1) (Rd h (chF (ro h q) x set n)) 6 [some (vR 2 0), some (vI x), some (vR 3 q), some (vI set), some (vI (chF (ro h q) x set t)), some (vI (nI t))] [] h := by
    refine loop_up n ?_ (fun t ht ih => ?_)
    · exact wp_at tX2_countHiredFor [] 20 6 okC kX2_countHiredFor ⟨fun _ => ⟨rfl, rfl⟩, fun c => absurd (by rw [hc]; exact nI_le (Nat.le_refl _) (by omega)) c⟩
    · refine wp_at tX2_countHiredFor [(6, [true, true, true, true, true, true])] 40 6 okC kX2_countHiredFor ⟨fun c => absurd c (by rw [hc]; exact nI_ge ht (by omega)), fun _ => ⟨_, c_of (by omega) (by omega), ?_⟩⟩
      rintro v h' ⟨rfl, rfl⟩
      rw [chF_s, ← nI_add t 1] at ih
      refine ⟨fun c => ?_, fun c => ?_⟩
      · rw [if_neg (i_len c)] at ih; exact ih
      · rw [if_pos (i_nlt c)] at ih; exact ih
  exact ct_vc tX2_countHiredFor [(6, [true, true, true, true, true, true])] 20 okC kX2_countHiredFor rfl (L 0 (Nat.zero_le n))
end
section
/-! class Past: a ring of twelve states, two shelves -/
theorem c_pclear {k : Nat} {h : Hp} : Ct alC mX4_clear k [vR 4 0] h (Rv (sX (sX h 4 0 3 (nI 0)) 4 0 4 (nI 0))) := ct_vc tX4_clear [] 20 okC kX4_clear rfl rfl
/-- the first and how many -/
def hPa (h : Hp) (f m : Nat) : Hp := sX (sX h 4 0 2 (nI f)) 4 0 3 (nI m)
theorem hPa_f {h : Hp} {f m : Nat} : (hPa h f m).1 4 0 2 = nI f := by unfold hPa; rw [rdX, rdX]; simp
theorem hPa_m {h : Hp} {f m : Nat} : (hPa h f m).1 4 0 3 = nI m := by unfold hPa; rw [rdX]; simp
theorem hPa_s {h : Hp} {f m i : Nat} : (hPa h f m).1 33 i = h.1 33 i := by unfold hPa sX; simp [rdV]
theorem hPa_same {h : Hp} {f m : Nat} (hf : h.1 4 0 2 = nI f) (hm : h.1 4 0 3 = nI m) : hPa h f m = h := by
  unfold hPa
  rw [sX_same hf, sX_same hm]
theorem hPa_wm {h : Hp} {f m m' : Nat} {i : Nat} {g : Nat → Int32} : sX (sV (hPa h f m) 33 i g) 4 0 3 (nI m') = hPa (sV h 33 i g) f m' := by
  unfold hPa
  refine hp_eq (fun k' i' => ?_) rfl
  by_cases c1 : k' = 4 ∧ i' = 0
  · obtain ⟨rfl, rfl⟩ := c1
    funext q
    simp only [rdX, rdVj]
    by_cases q3 : q = 3
    · subst q3; simp
    · by_cases q2 : q = 2
      · subst q2; simp
      · simp [q3, q2]
  · unfold sX
    by_cases c2 : k' = 33 ∧ i' = i
    · obtain ⟨rfl, rfl⟩ := c2; simp [rdV]
    · simp [rdV, c1, c2]
theorem c_push {k i f m : Nat} {h : Hp} (hf : h.1 4 0 2 = nI f) (hm : h.1 4 0 3 = nI m) (hf2 : f < 12) (hm2 : m ≤ 12) (f' m' : Nat) (e : (m = 12 ∧ f' = (f + 1) % 12 ∧ m' = 11) ∨ (m < 12 ∧ f' = f ∧ m' = m)) : Ct alC mX4_push (k + 2) [vR 4 0, vR 8 i] h (Rv (hPa (sV h 33 (3 + (f' + m') % 12) (h.1 33 i)) f' (m' + 1))) := by
  have hf' : f' < 12 := by omega
  have hm' : m' < 12 := by omega
  have two : WP alC mX4_push (k + 2) (Rv (hPa (sV h 33 (3 + (f' + m') % 12) (h.1 33 i)) f' (m' + 1))) 32 [some (vR 4 0), some (vR 8 i)] [] (hPa h f' m') := by
    have er : nI (f' + m') - nI (f' + m') / nI 12 * nI 12 = nI ((f' + m') % 12) := pk_rem (by omega) (by omega) (by omega)
    refine wp_at tX4_push [] 40 32 okC kX4_push ⟨by decide, ?_, ?_⟩
    · rw [hPa_f, hPa_m, nI_add, er]; exact ix1 12 (Nat.mod_lt _ (by omega))
    · rw [hPa_f, hPa_m, nI_add, er, nI_clamp (by have := Nat.mod_lt (f' + m') (show 12 > 0 by omega); omega)]
      refine ⟨_, c_take, ?_⟩
      rintro v h' rfl
      show sX (sV (hPa h f' m') 33 (3 + (f' + m') % 12) ((hPa h f' m').1 33 i)) 4 0 3 ((sV (hPa h f' m') 33 (3 + (f' + m') % 12) ((hPa h f' m').1 33 i)).1 4 0 3 + nI 1) = _
      rw [hPa_s, show (sV (hPa h f' m') 33 (3 + (f' + m') % 12) (h.1 33 i)).1 4 0 3 = nI m' by rw [rdVj]; simp [hPa_m], nI_add, hPa_wm]
  refine ct_vc tX4_push [(32, [true, true])] 40 okC kX4_push rfl ?_
  refine ⟨fun c => ?_, fun c => ?_⟩
  · have hmn : ¬ m = 12 := fun z => c (by rw [hm, z])
    obtain ⟨h1, rfl, rfl⟩ : m < 12 ∧ f' = f ∧ m' = m := by omega
    rw [hPa_same hf hm] at two
    exact two
  · have hmn : m = 12 := nI_inj (by omega) (by omega) (by rw [← hm]; exact nn c)
    obtain ⟨-, rfl, rfl⟩ : m = 12 ∧ f' = (f + 1) % 12 ∧ m' = 11 := by omega
    have er : nI (f + 1) - nI (f + 1) / nI 12 * nI 12 = nI ((f + 1) % 12) := pk_rem (by omega) (by omega) (by omega)
    refine ⟨by decide, ?_⟩
    rw [hf, nI_add, er]
    refine wp_h ?_ two
    unfold hPa
    congr 1
    rw [rdX, if_neg (by decide), hm, hmn]
    decide
theorem c_pop {k i f m : Nat} {h : Hp} (hf : h.1 4 0 2 = nI f) (hm : h.1 4 0 3 = nI (m + 1)) (hf2 : f < 12) (hm2 : m < 12) : Ct alC mX4_pop (k + 2) [vR 4 0, vR 8 i] h (Rv (sV (sX h 4 0 3 (nI m)) 33 i (h.1 33 (3 + (f + m) % 12)))) := by
  have er : nI (f + m) - nI (f + m) / nI 12 * nI 12 = nI ((f + m) % 12) := pk_rem (by omega) (by omega) (by omega)
  have em : nI (m + 1) - nI 1 = nI m := pk_sub (by omega)
  have e1 : (sX h 4 0 3 (nI m)).1 4 0 3 = nI m := by rw [rdX]; simp
  have e2 : (sX h 4 0 3 (nI m)).1 4 0 2 = nI f := by rw [rdX]; simp [hf]
  have e3 : ∀ z, (sX h 4 0 3 (nI m)).1 33 z = h.1 33 z := fun z => by unfold sX; rw [rdV]; simp
  refine ct_vc tX4_pop [] 40 okC kX4_pop rfl ?_
  refine ⟨fun c => ?_, fun c => ⟨by decide, ?_, ?_⟩⟩
  · exfalso
    rw [hm] at c
    exact nI_nle (by omega) (by omega) c
  · rw [hm, em, e1, e2, nI_add, er]; exact ix1 12 (Nat.mod_lt _ (by omega))
  · rw [hm, em, e1, e2, nI_add, er, nI_clamp (by have := Nat.mod_lt (f + m) (show 12 > 0 by omega); omega)]
    refine ⟨_, c_take, ?_⟩
    rintro v h' rfl
    rw [e3]
    exact rfl
def okS (x : Int32) : Bool := decide (0 ≤ x) && decide (x < nI 2)
theorem okS_get {x : Int32} (h : okS x = true) : ∃ j, j < 2 ∧ x = nI j := hasN_get (n := 2) h (by decide)
theorem c_shelve {k i : Nat} {h : Hp} {x : Int32} : Ct alC mX4_shelve (k + 2) [vR 4 0, vI x, vR 8 i] h (Rt (b2 (okS x)) (if okS x = true then sX (sV h 33 (15 + x.toNatClampNeg) (h.1 33 i)) 4 0 4 (h.1 4 0 4 ||| (nI 1 <<< (x &&& 31))) else h)) := by
  refine ct_vc tX4_shelve [(11, [true, true, true])] 40 okC kX4_shelve rfl ?_
  refine ⟨fun c => ⟨Or.inl rfl, ?_⟩, fun c => ⟨fun c2 => ?_, fun c2 => ⟨Or.inl rfl, ?_⟩⟩⟩
  · rw [show okS x = false by unfold okS; rw [dF (fun z => (i_ltn z) c)]; rfl]; exact ⟨rfl, rfl⟩
  · have ho : okS x = true := by unfold okS; rw [dT (i_nlt c), dT c2]; rfl
    obtain ⟨j, hj, rfl⟩ := okS_get ho
    refine wp_at tX4_shelve [] 40 11 okC kX4_shelve ⟨ix1 2 hj, _, c_take, ?_⟩
    rintro v h' rfl
    refine ⟨Or.inr rfl, ?_⟩
    rw [ho, rdVj]
    exact ⟨rfl, rfl⟩
  · rw [show okS x = false by unfold okS; rw [dF c2, Bool.and_false]]; exact ⟨rfl, rfl⟩
theorem c_fetch {k i : Nat} {h : Hp} {x : Int32} : Ct alC mX4_fetch (k + 2) [vR 4 0, vI x, vR 8 i] h (Rt (b2 (okS x && !decide ((h.1 4 0 4 >>> (x &&& 31)) &&& nI 1 = 0))) (if (okS x && !decide ((h.1 4 0 4 >>> (x &&& 31)) &&& nI 1 = 0)) = true then sX (sV h 33 i (h.1 33 (15 + x.toNatClampNeg))) 4 0 3 (nI 0) else h)) := by
  refine ct_vc tX4_fetch [(22, [true, true, true])] 40 okC kX4_fetch rfl ?_
  refine ⟨fun c => ⟨Or.inl rfl, ?_⟩, fun c => ⟨fun c2 => ⟨Or.inl rfl, ?_⟩, fun c2 => ⟨fun c3 => ?_, fun c3 => ⟨Or.inl rfl, ?_⟩⟩⟩⟩
  · rw [show okS x = false by unfold okS; rw [dF (fun z => (i_ltn z) c)]; rfl]; exact ⟨rfl, rfl⟩
  · rw [show okS x = false by unfold okS; rw [dF (i_ltn c2), Bool.and_false]]; exact ⟨rfl, rfl⟩
  · have ho : okS x = true := by unfold okS; rw [dT (i_nlt c), dT (i_nle c2)]; rfl
    rw [ho, dF c3]
    obtain ⟨j, hj, rfl⟩ := okS_get ho
    refine wp_at tX4_fetch [] 40 22 okC kX4_fetch ⟨ix1 2 hj, _, c_take, ?_⟩
    rintro v h' rfl
    exact ⟨Or.inr rfl, rfl, rfl⟩
  · rw [dT (nn c3), show (okS x && !true) = false by simp]; exact ⟨rfl, rfl⟩
end
section
/-! class Crowd -/
def orG (a : Int32) (g : Nat → Int32) : Nat → Int32
  | 0 => a
  | n + 1 => orG a g n ||| g n
/-- the seats that are up by themselves -/
def u0F (PK : Nat → Int32) (fav won home : Int32) (n : Nat) : Int32 := orG (won &&& (home ^^^ -(nI 1))) (fun j => if PK j ≤ fav then nI 1 <<< (nI j &&& 31) &&& (home ^^^ -(nI 1)) else nI 0) n
theorem u0F_s (PK : Nat → Int32) (fav won home : Int32) (t : Nat) : u0F PK fav won home (t + 1) = u0F PK fav won home t ||| (if PK t ≤ fav then nI 1 <<< (nI t &&& 31) &&& (home ^^^ -(nI 1)) else nI 0) := rfl
/-- those that follow -/
def usF (FL : Nat → Int32) (home u : Int32) (n : Nat) : Int32 := orG u (fun j => if ¬ FL j = 0 ∧ FL j ≤ bcF u then nI 1 <<< (nI j &&& 31) &&& (home ^^^ -(nI 1)) else nI 0) n
theorem usF_s (FL : Nat → Int32) (home u : Int32) (t : Nat) : usF FL home u (t + 1) = usF FL home u t ||| (if ¬ FL t = 0 ∧ FL t ≤ bcF u then nI 1 <<< (nI t &&& 31) &&& (home ^^^ -(nI 1)) else nI 0) := rfl
def urF (FL : Nat → Int32) (home : Int32) (n : Nat) : Nat → Int32 → Int32
  | 0, u => u
  | f + 1, u => if usF FL home u n = u then u else urF FL home n f (usF FL home u n)
def upF (PK FL : Nat → Int32) (n : Nat) (fav won home : Int32) : Int32 := urF FL home n 8 (u0F PK fav won home n)
theorem c_up {k n : Nat} {h : Hp} {fav won home : Int32} (hc : h.1 3 1 3 = nI n) (hn : n ≤ 8) : Ct alC mX1_up (k + 1) [vR 1 0, vI fav, vI won, vI home] h (Rd h (upF (ro h 1 2) (ro h 1 4) n fav won home)) := by
  have L2 : ∀ (f r : Nat) (u : Int32), r + f = 8 → urF (ro h 1 4) home n f u = upF (ro h 1 2) (ro h 1 4) n fav won home → WP alC mX1_up (k + 1) (Rd h (upF (ro h 1 2) (ro h 1 4) n fav won home)) 62 [some (vR 1 0), none, none, some (vI home), some (vI u), some (vI (nI r)), none, none, none, none] [] h := by
    intro f
    induction f with
    | zero =>
      intro r u hr e
      refine wp_at tX1_up [] 20 62 okC kX1_up ⟨fun _ => ?_, fun c => absurd (nI_le (by omega) (by omega)) c⟩
      rw [← e]
      exact ⟨rfl, rfl⟩
    | succ f ih =>
      intro r u hr e
      rw [urF] at e
      have LI : ∀ t, t ≤ n → WP alC mX1_up (k + 1) (Rd h (upF (ro h 1 2) (ro h 1 4) n fav won home)) 83 [some (vR 1 0), none, none, some (vI home), some (vI u), some (vI (nI r)), some (vI (bcF u)), some (vI (usF (ro h 1 4) home u t)), some (vI (nI t)), none] [] h := by
        refine loop_up n ?_ (fun t ht ih2 => ?_)
        · refine wp_at tX1_up [(62, [true, false, false, true, true, true, false, false, false, false])] 40 83 okC kX1_up ⟨fun _ => ⟨fun c => ?_, fun c => ?_⟩, fun c => absurd (by rw [hc]; exact nI_le (Nat.le_refl _) (by omega)) c⟩
          · rw [if_neg c] at e
            have := ih (r + 1) (usF (ro h 1 4) home u n) (by omega) e
            rw [← nI_add r 1] at this
            exact this
          · rw [if_pos (nn c)] at e
            rw [← e]
            exact ⟨rfl, rfl⟩
        · refine wp_at tX1_up [(83, [true, false, false, true, true, true, true, true, true, false])] 60 83 okC kX1_up ⟨fun c => absurd c (by rw [hc]; exact nI_ge ht (by omega)), fun _ => ⟨_, c_of (by omega) (by omega), ?_⟩⟩
          rintro v h' ⟨rfl, rfl⟩
          rw [usF_s, ← nI_add t 1] at ih2
          refine ⟨fun c => ?_, fun c => ⟨fun c2 => ?_, fun c2 => ?_⟩⟩
          · rw [if_neg (fun z => z.1 c)] at ih2; exact ih2
          · rw [if_neg (fun z => (i_len c2) z.2)] at ih2; exact ih2
          · rw [if_pos ⟨c, i_nlt c2⟩] at ih2; exact ih2
      refine wp_at tX1_up [(83, [true, false, false, true, true, true, true, true, true, false])] 40 62 okC kX1_up ⟨fun c => absurd c (nI_ge (by omega) (by omega)), fun _ => ⟨_, c_bitCount okC, ?_⟩⟩
      rintro v h' ⟨rfl, rfl⟩
      exact LI 0 (Nat.zero_le n)
  have L1 : ∀ t, t ≤ n → WP alC mX1_up (k + 1) (Rd h (upF (ro h 1 2) (ro h 1 4) n fav won home)) 10 [some (vR 1 0), some (vI fav), none, some (vI home), some (vI (u0F (ro h 1 2) fav won home t)), some (vI (nI t)), none, none, none, none] [] h := by
    refine loop_up n ?_ (fun t ht ih => ?_)
    · exact wp_at tX1_up [(62, [true, false, false, true, true, true, false, false, false, false])] 40 10 okC kX1_up ⟨fun _ => L2 8 0 _ rfl rfl, fun c => absurd (by rw [hc]; exact nI_le (Nat.le_refl _) (by omega)) c⟩
    · refine wp_at tX1_up [(10, [true, true, false, true, true, true, false, false, false, false])] 60 10 okC kX1_up ⟨fun c => absurd c (by rw [hc]; exact nI_ge ht (by omega)), fun _ => ⟨_, c_of (by omega) (by omega), ?_⟩⟩
      rintro v h' ⟨rfl, rfl⟩
      rw [u0F_s, ← nI_add t 1] at ih
      refine ⟨fun c => ?_, fun c => ?_⟩
      · rw [if_neg (i_len c)] at ih; exact ih
      · rw [if_pos (i_nlt c)] at ih; exact ih
  exact ct_vc tX1_up [(10, [true, true, false, true, true, true, false, false, false, false])] 40 okC kX1_up rfl (L1 0 (Nat.zero_le n))
def spB (PE PK FL : Nat → Int32) (n : Nat) (fav won home : Int32) : Bool := decide (csF PE (home ^^^ -(nI 1)) n ≤ nI 2 * csF PE (upF PK FL n fav won home) n)
theorem c_sparesIf {k n : Nat} {h : Hp} {fav won home : Int32} (hc : h.1 3 1 3 = nI n) (hn : n ≤ 8) : Ct alC mX1_sparesIf (k + 2) [vR 1 0, vI fav, vI won, vI home] h (Rd h (b2 (spB (ro h 1 0) (ro h 1 2) (ro h 1 4) n fav won home))) := by
  refine ct_vc tX1_sparesIf [] 60 okC kX1_sparesIf rfl ?_
  refine ⟨_, c_up hc hn, ?_⟩
  rintro v h' ⟨rfl, rfl⟩
  refine ⟨_, c_lsum hc hn (by omega), ?_⟩
  rintro v h' ⟨rfl, rfl⟩
  refine ⟨_, c_lsum hc hn (by omega), ?_⟩
  rintro v h' ⟨rfl, rfl⟩
  exact ⟨fun c => ⟨Or.inl rfl, bF (dF (i_len c)), rfl⟩, fun c => ⟨Or.inr rfl, bT (dT (i_nlt c)), rfl⟩⟩
theorem c_spares {k : Nat} {h : Hp} {fav : Int32} : Ct alC mX1_spares k [vR 1 0, vI fav] h (Rd h (b2 (decide (h.1 1 0 1 ≤ fav)))) := by
  refine ct_vc tX1_spares [] 20 okC kX1_spares rfl ?_
  exact ⟨fun c => ⟨Or.inl rfl, bF (dF (i_len c)), rfl⟩, fun c => ⟨Or.inr rfl, bT (dT (i_nlt c)), rfl⟩⟩
/-- the least of 0 .. 99 for which g, else 100 -/
def lsF (g : Nat → Bool) : Nat → Nat → Nat
  | 0, i => i
  | f + 1, i => if g i = true then i else lsF g f (i + 1)
/-- SEATS come: their count, the least spared FAVOUR -/
theorem c_centerX {k n m : Nat} {h h1 : Hp} (hc : h.1 3 1 3 = nI n) (hf : h.1 3 1 4 = nI m) (hn : n + m ≤ 8) (e1 : h1 = sX h 3 1 3 (nI (n + m))) : Ct alC mX1_enter (k + 3) [vR 1 0] h (Rt (nI m) (sX h1 1 0 1 (nI (lsF (fun v => spB (ro h 1 0) (ro h 1 2) (ro h 1 4) (n + m) (nI v) (nI 0) (nI 0)) 100 0)))) := by
  have hr : ∀ x p, ro (sX h1 1 0 1 x) 1 p = ro h 1 p := fun x p => by rw [e1]; show (sX (sX h 3 1 3 (nI (n + m))) 1 0 1 x).1 38 (5 * 1 + p) = _; unfold sX; simp [rdV]
  have hc1 : ∀ x, (sX h1 1 0 1 x).1 3 1 3 = nI (n + m) := fun x => by rw [e1, rdX, rdX]; simp
  have L : ∀ f i, i + f = 100 → lsF (fun v => spB (ro h 1 0) (ro h 1 2) (ro h 1 4) (n + m) (nI v) (nI 0) (nI 0)) f i = lsF (fun v => spB (ro h 1 0) (ro h 1 2) (ro h 1 4) (n + m) (nI v) (nI 0) (nI 0)) 100 0 → WP alC mX1_enter (k + 3) (Rt (nI m) (sX h1 1 0 1 (nI (lsF (fun v => spB (ro h 1 0) (ro h 1 2) (ro h 1 4) (n + m) (nI v) (nI 0) (nI 0)) 100 0)))) 15 [some (vR 1 0), some (vI (nI m)), some (vI (nI i))] [] (sX h1 1 0 1 (nI i)) := by
    intro f
    induction f with
    | zero =>
      intro i hi e
      refine wp_at tX1_enter [] 20 15 okC kX1_enter ⟨fun _ => ?_, fun c => absurd (nI_lt (by omega) (by omega)) c⟩
      rw [← e]
      exact ⟨rfl, rfl⟩
    | succ f ih =>
      intro i hi e
      refine wp_at tX1_enter [(15, [true, true, true])] 40 15 okC kX1_enter ⟨fun c => ?_, fun _ => ⟨_, c_sparesIf (hc1 _) hn, ?_⟩⟩
      · exfalso
        rw [nI_ltI (by omega) (by omega)] at c
        omega
      · rintro v h' ⟨rfl, rfl⟩
        rw [hr, hr, hr]
        rw [lsF] at e
        refine ⟨fun c => ?_, fun c => ?_⟩
        · rw [if_pos (b2_n0.mp c)] at e
          rw [← e]
          exact ⟨rfl, rfl⟩
        · rw [if_neg (by rw [b2_0.mp (nn c)]; decide)] at e
          have := ih (i + 1) (by omega) e
          rw [← nI_add i 1] at this
          exact wp_h sX_sX this
  refine ct_vc tX1_enter [(15, [true, true, true])] 40 okC kX1_enter rfl ?_
  refine ⟨_, c_lenter, ?_⟩
  rintro v h' ⟨rfl, rfl⟩
  rw [hc, hf, nI_add, ← e1]
  exact L 100 0 rfl rfl
def fwF (all : Nat) (g : Nat → Bool) : Nat → Int32
  | 0 => nI all
  | s + 1 => if bcF (nI s) < bcF (fwF all g s) ∧ g s = true then nI s else fwF all g s
theorem c_fewestToWin {k n : Nat} {h : Hp} {fav : Int32} (hc : h.1 3 1 3 = nI n) (hn : n ≤ 8) : Ct alC mX1_fewestToWin (k + 3) [vR 1 0, vI fav] h (Rd h (fwF (2 ^ n - 1) (fun s => spB (ro h 1 0) (ro h 1 2) (ro h 1 4) n fav (nI s) (nI 0)) (2 ^ n - 1))) := by
  have hp := p2_le hn
  have hp0 : 0 < 2 ^ n := Nat.two_pow_pos n
  have L : ∀ t, t ≤ 2 ^ n - 1 → WP alC mX1_fewestToWin (k + 3) (Rd h (fwF (2 ^ n - 1) (fun s => spB (ro h 1 0) (ro h 1 2) (ro h 1 4) n fav (nI s) (nI 0)) (2 ^ n - 1))) 17 [some (vR 1 0), some (vI fav), some (vI (nI (2 ^ n - 1))), some (vI (fwF (2 ^ n - 1) (fun s => spB (ro h 1 0) (ro h 1 2) (ro h 1 4) n fav (nI s) (nI 0)) t)), some (vI (nI t))] [] h := by
    refine loop_up (2 ^ n - 1) ?_ (fun t ht ih => ?_)
    · exact wp_at tX1_fewestToWin [] 20 17 okC kX1_fewestToWin ⟨fun _ => ⟨rfl, rfl⟩, fun c => absurd (nI_le (Nat.le_refl _) (by omega)) c⟩
    · rw [← nI_add t 1, fwF] at ih
      refine wp_at tX1_fewestToWin [(17, [true, true, true, true, true])] 60 17 okC kX1_fewestToWin ⟨fun c => absurd c (nI_ge ht (by omega)), fun _ => ⟨_, c_bitCount okC, ?_⟩⟩
      rintro v h' ⟨rfl, rfl⟩
      refine ⟨_, c_bitCount okC, ?_⟩
      rintro v h' ⟨rfl, rfl⟩
      refine ⟨fun c => ?_, fun c => ⟨_, c_sparesIf hc hn, ?_⟩⟩
      · rw [if_neg (fun z => (i_ltn c) z.1)] at ih; exact ih
      · rintro v h' ⟨rfl, rfl⟩
        refine ⟨fun c2 => ?_, fun c2 => ?_⟩
        · rw [if_neg (fun z => by have := z.2; rw [b2_0.mp c2] at this; cases this)] at ih; exact ih
        · rw [if_pos ⟨i_nle c, b2_n0.mp c2⟩] at ih; exact ih
  refine ct_vc tX1_fewestToWin [(17, [true, true, true, true, true])] 40 okC kX1_fewestToWin rfl ?_
  have := L 0 (by omega)
  rw [fwF, ← all_nI hn, ← hc] at this
  exact this
def tpF (g : Nat → Bool) (b : Bool) (n : Nat) : Int32 := orF (fun j => if g j = b then nI 0 else bit j) n
theorem tpF_s (g : Nat → Bool) (b : Bool) (t : Nat) : tpF g b (t + 1) = tpF g b t ||| (if g t = b then nI 0 else bit t) := rfl
theorem c_tipping {k n : Nat} {h : Hp} {fav : Int32} (hc : h.1 3 1 3 = nI n) (hn : n ≤ 8) : Ct alC mX1_tipping (k + 3) [vR 1 0, vI fav] h (Rd h (tpF (fun j => spB (ro h 1 0) (ro h 1 2) (ro h 1 4) n fav (nI 0) (bit j)) (decide (h.1 1 0 1 ≤ fav)) n)) := by
  have L : ∀ t, t ≤ n → WP alC mX1_tipping (k + 3) (Rd h (tpF (fun j => spB (ro h 1 0) (ro h 1 2) (ro h 1 4) n fav (nI 0) (bit j)) (decide (h.1 1 0 1 ≤ fav)) n)) 11 [some (vR 1 0), some (vI fav), some (vI (b2 (decide (h.1 1 0 1 ≤ fav)))), some (vI (tpF (fun j => spB (ro h 1 0) (ro h 1 2) (ro h 1 4) n fav (nI 0) (bit j)) (decide (h.1 1 0 1 ≤ fav)) t)), some (vI (nI t))] [] h := by
    refine loop_up n ?_ (fun t ht ih => ?_)
    · exact wp_at tX1_tipping [] 20 11 okC kX1_tipping ⟨fun _ => ⟨rfl, rfl⟩, fun c => absurd (by rw [hc]; exact nI_le (Nat.le_refl _) (by omega)) c⟩
    · rw [tpF_s, ← nI_add t 1] at ih
      refine wp_at tX1_tipping [(11, [true, true, true, true, true])] 60 11 okC kX1_tipping ⟨fun c => absurd c (by rw [hc]; exact nI_ge ht (by omega)), fun _ => ⟨_, c_sparesIf hc hn, ?_⟩⟩
      rintro v h' ⟨rfl, rfl⟩
      refine ⟨fun c => ?_, fun c => ?_⟩
      · have c' : spB (ro h' 1 0) (ro h' 1 2) (ro h' 1 4) n fav (nI 0) (bit t) = decide (h'.1 1 0 1 ≤ fav) := b2_inj c
        rw [if_pos c'] at ih; exact ih
      · have c' : ¬ spB (ro h' 1 0) (ro h' 1 2) (ro h' 1 4) n fav (nI 0) (bit t) = decide (h'.1 1 0 1 ≤ fav) := fun z => c (congrArg b2 z)
        rw [if_neg c'] at ih; exact ih
  refine ct_vc tX1_tipping [(11, [true, true, true, true, true])] 40 okC kX1_tipping rfl ?_
  refine ⟨_, c_spares, ?_⟩
  rintro v h' ⟨rfl, rfl⟩
  exact L 0 (Nat.zero_le n)
end
section
/-! class Rule: what a rule says (value) -/
theorem swP_of {x : Int32} {d : Nat} {K : Nat → Prop} : ∀ (cs : List (Nat × Nat)), (∀ q, q ∈ cs → x = nI q.1 → K q.2) → ((∀ q, q ∈ cs → ¬ x = nI q.1) → K d) → swP x d cs K
  | [], _, h2 => h2 (fun _ h => by cases h)
  | (v, t) :: r, h1, h2 => ⟨fun e => h1 (v, t) List.mem_cons_self e, fun e => swP_of r (fun q hq => h1 q (List.mem_cons_of_mem _ hq)) (fun h3 => h2 (fun q hq => (List.mem_cons.mp hq).elim (fun z => by subst z; exact e) (h3 q)))⟩
/-- a letter of a rule -/
def isLt (x : Int32) : Bool := decide (x = nI 97) || decide (x = nI 100) || decide (x = nI 101) || decide (x = nI 102) || decide (x = nI 104) || decide (x = nI 108) || decide (x = nI 115) || decide (x = nI 119)
theorem c_isLetter {k : Nat} {h : Hp} {x : Int32} : Ct alC mX6_isLetter k [vI x] h (Rd h (b2 (isLt x))) := by
  refine ct_vc tX6_isLetter [] 30 okC kX6_isLetter rfl ?_
  refine swP_of _ (fun q hq e => ?_) (fun hn => ?_)
  · simp only [prs, List.tail_cons, List.mem_cons, List.not_mem_nil, or_false] at hq
    subst e
    rcases hq with rfl | rfl | rfl | rfl | rfl | rfl | rfl | rfl | rfl | rfl | rfl | rfl | rfl | rfl | rfl | rfl | rfl | rfl | rfl | rfl | rfl | rfl | rfl <;> first | exact ⟨Or.inr rfl, bT (by decide), rfl⟩ | exact ⟨Or.inl rfl, bF (by decide), rfl⟩
  · have hf : isLt x = false := by
      unfold isLt
      rw [dF (hn (97, 108) (by decide)), dF (hn (100, 108) (by decide)), dF (hn (101, 108) (by decide)), dF (hn (102, 108) (by decide)), dF (hn (104, 108) (by decide)), dF (hn (108, 108) (by decide)), dF (hn (115, 108) (by decide)), dF (hn (119, 108) (by decide))]
      rfl
    exact ⟨Or.inl rfl, bF hf, rfl⟩
/-- what a letter says -/
def ltF (R : Nat → Nat → Int32) (s : Nat → Int32) (one oth : Nat) (x : Int32) : Int32 := if x = nI 97 then R 0 one else if x = nI 101 then R 0 oth else if x = nI 102 then s (16 + one) else if x = nI 104 then s (8 + one) else if x = nI 108 then s one / nI 10 else if x = nI 115 then R 1 one else if x = nI 119 then s (24 + one) else s 46 - s 46 / nI 8 * nI 8
theorem c_letter {k q i one oth : Nat} {h : Hp} {x : Int32} (h1 : one < 8) (h2 : oth < 8) : Ct alC mX6_letter (k + 1) [vI x, vR 3 q, vR 8 i, vI (nI one), vI (nI oth)] h (Rd h (ltF (ro h q) (h.1 33 i) one oth x)) := by
  have dflt : (¬ x = nI 97) → (¬ x = nI 101) → (¬ x = nI 102) → (¬ x = nI 104) → (¬ x = nI 108) → (¬ x = nI 115) → (¬ x = nI 119) → WP alC mX6_letter (k + 1) (Rd h (ltF (ro h q) (h.1 33 i) one oth x)) 157 [none, none, some (vR 8 i), none, none] [] h := by
    intro a1 a2 a3 a4 a5 a6 a7
    refine wp_at tX6_letter [] 20 157 okC kX6_letter ⟨ix1 47 (by omega), by decide, ?_, rfl⟩
    unfold ltF
    rw [if_neg a1, if_neg a2, if_neg a3, if_neg a4, if_neg a5, if_neg a6, if_neg a7]
    rfl
  refine ct_vc tX6_letter [(157, [false, false, true, false, false])] 30 okC kX6_letter rfl ?_
  refine swP_of _ (fun q hq e => ?_) (fun hn => ?_)
  · simp only [prs, List.tail_cons, List.mem_cons, List.not_mem_nil, or_false] at hq
    subst e
    rcases hq with rfl | rfl | rfl | rfl | rfl | rfl | rfl | rfl | rfl | rfl | rfl | rfl | rfl | rfl | rfl | rfl | rfl | rfl | rfl | rfl | rfl | rfl | rfl <;> first
      | exact dflt (by decide) (by decide) (by decide) (by decide) (by decide) (by decide) (by decide)
      | (refine ⟨_, c_of (by omega) (by omega), ?_⟩; rintro v h' ⟨rfl, rfl⟩; exact ⟨rfl, rfl⟩)
      | (refine ⟨_, c_hurt (by omega), ?_⟩; rintro v h' ⟨rfl, rfl⟩; exact ⟨rfl, rfl⟩)
      | (refine ⟨_, c_won (by omega), ?_⟩; rintro v h' ⟨rfl, rfl⟩; exact ⟨rfl, rfl⟩)
      | (refine ⟨_, c_fought (by omega), ?_⟩; rintro v h' ⟨rfl, rfl⟩; exact ⟨rfl, rfl⟩)
      | (refine ⟨_, c_favour (by omega), ?_⟩; rintro v h' ⟨rfl, rfl⟩; exact ⟨by decide, rfl, rfl⟩)
  · exact dflt (hn (97, 142) (by decide)) (hn (101, 149) (by decide)) (hn (102, 127) (by decide)) (hn (104, 115) (by decide)) (hn (108, 133) (by decide)) (hn (115, 108) (by decide)) (hn (119, 121) (by decide))
/-- an operator -/
def jnF (o a b : Int32) : Int32 := if o = nI 42 then a * b else if o = nI 43 then a + b else if o = nI 45 then a - b else if o = nI 60 then b2 (decide (a < b)) else if o = nI 61 then b2 (decide (a = b)) else if o = nI 62 then b2 (decide (b < a)) else if b = 0 then nI 0 else a / b
theorem c_joined {k : Nat} {h : Hp} {o a b : Int32} : Ct alC mX6_joined k [vI o, vI a, vI b] h (Rd h (jnF o a b)) := by
  refine ct_vc tX6_joined [] 30 okC kX6_joined rfl ?_
  unfold jnF
  refine ⟨fun e => ?_, fun e0 => ⟨fun e => ?_, fun e1 => ⟨fun e => ?_, fun e2 => ⟨fun e => ?_, fun e3 => ⟨fun e => ?_, fun e4 => ⟨fun e => ?_, fun e5 => ?_⟩⟩⟩⟩⟩⟩
  · rw [if_pos e]; exact ⟨rfl, rfl⟩
  · rw [if_neg e0, if_pos e]; exact ⟨rfl, rfl⟩
  · rw [if_neg e0, if_neg e1, if_pos e]; exact ⟨rfl, rfl⟩
  · rw [if_neg e0, if_neg e1, if_neg e2, if_pos e]
    exact ⟨fun c => ⟨bF (dF (i_ltn c)), rfl⟩, fun c => ⟨bT (dT (i_nle c)), rfl⟩⟩
  · rw [if_neg e0, if_neg e1, if_neg e2, if_neg e3, if_pos e]
    exact ⟨fun c => ⟨bF (dF c), rfl⟩, fun c => ⟨bT (dT (nn c)), rfl⟩⟩
  · rw [if_neg e0, if_neg e1, if_neg e2, if_neg e3, if_neg e4, if_pos e]
    exact ⟨fun c => ⟨bF (dF (i_ltn c)), rfl⟩, fun c => ⟨bT (dT (i_nle c)), rfl⟩⟩
  · rw [if_neg e0, if_neg e1, if_neg e2, if_neg e3, if_neg e4, if_neg e5]
    refine ⟨fun c => ⟨c, ?_, rfl⟩, fun c => ⟨?_, rfl⟩⟩
    · rw [if_neg c]
    · rw [if_pos (nn c)]
/-- one step on a stack (its top first) -/
def ev1 (lf : Int32 → Int32) (x : Int32) (st : List Int32) : Option (List Int32) := if 0 ≤ x then some (x :: st) else if isLt (-x) = true then some (lf (-x) :: st) else if x = -(nI 126) then (match st with
  | a :: t => some (-a :: t)
  | [] => none) else (match st with
  | b :: a :: t => some (jnF (-x) a b :: t)
  | _ => none)
def evN (lf : Int32 → Int32) (sp : Nat → Int32) : Nat → Option (List Int32)
  | 0 => some []
  | n + 1 => (evN lf sp n).bind (ev1 lf (sp n))
theorem ev1_len {lf : Int32 → Int32} {x : Int32} {st st' : List Int32} (h : ev1 lf x st = some st') : st'.length ≤ st.length + 1 ∧ 1 ≤ st'.length := by
  unfold ev1 at h
  split at h
  · cases h; simp
  · split at h
    · cases h; simp
    · split at h
      · split at h
        · cases h; simp
        · cases h
      · split at h
        · cases h; simp; omega
        · cases h
theorem evN_len {lf : Int32 → Int32} {sp : Nat → Int32} : ∀ {n : Nat} {st : List Int32}, evN lf sp n = some st → st.length ≤ n
  | 0, st, h => by cases h; simp
  | n + 1, st, h => by
    rw [evN] at h
    obtain ⟨s0, h1, h2⟩ := Option.bind_eq_some_iff.mp h
    have := evN_len h1
    have := (ev1_len h2).1
    omega
theorem evN_some {lf : Int32 → Int32} {sp : Nat → Int32} {n : Nat} {st : List Int32} (h : evN lf sp (n + 1) = some st) : ∃ s0, evN lf sp n = some s0 ∧ ev1 lf (sp n) s0 = some st := Option.bind_eq_some_iff.mp h
theorem evN_dn {lf : Int32 → Int32} {sp : Nat → Int32} {n m : Nat} (h : n ≤ m) {st : List Int32} (e : evN lf sp m = some st) : ∃ s0, evN lf sp n = some s0 := by
  obtain ⟨d, rfl⟩ : ∃ d, m = n + d := ⟨m - n, by omega⟩
  induction d generalizing st with
  | zero => exact ⟨st, e⟩
  | succ d ih =>
    obtain ⟨s0, h1, -⟩ := evN_some (show evN lf sp (n + d + 1) = some st from e)
    exact ih (by omega) h1
/-- the array g holds the stack, its bottom first -/
def hld (g : Nat → Int32) (st : List Int32) : Prop := ∀ j, j < st.length → st.reverse[j]? = some (g j)
theorem hld_push {g : Nat → Int32} {st : List Int32} {x : Int32} (h : hld g st) : hld (upd g st.length x) (x :: st) := by
  intro j hj
  rw [List.reverse_cons]
  by_cases c : j = st.length
  · subst c
    rw [upd_s, List.getElem?_append_right (by simp)]
    simp
  · rw [upd_n c, List.getElem?_append_left (by simp at hj ⊢; omega)]
    exact h j (by simp at hj; omega)
theorem hld_top {g : Nat → Int32} {st : List Int32} {a : Int32} (h : hld g (a :: st)) : g st.length = a ∧ hld g st := by
  refine ⟨?_, fun j hj => ?_⟩
  · have := h st.length (by simp)
    rw [List.reverse_cons, List.getElem?_append_right (by simp)] at this
    simpa using this.symm
  · have := h j (by simp; omega)
    rw [List.reverse_cons, List.getElem?_append_left (by simpa using hj)] at this
    exact this
theorem sV_id {h : Hp} {k i : Nat} : sV h k i (h.1 k i) = h := by
  refine hp_eq (fun k' i' => ?_) rfl
  rw [rdV]
  split
  next c => obtain ⟨rfl, rfl⟩ := c; rfl
  next => rfl
theorem c_value {k b q i one oth m : Nat} {h : Hp} {v : Int32} (h1 : one < 8) (h2 : oth < 8) (hm : h.1 6 b 2 = nI m) (hm1 : 1 ≤ m) (hm2 : m ≤ 40) (hev : evN (ltF (ro h q) (h.1 33 i) one oth) (h.1 26 b) m = some [v]) : Ct alC mX6_value (k + 2) [vR 6 b, vR 3 q, vR 8 i, vI (nI one), vI (nI oth)] h (fun x h' => x = vI v ∧ ∃ g, h' = sV h 27 b g) := by
  have L : ∀ t, t ≤ m → ∀ (g : Nat → Int32) (st : List Int32), evN (ltF (ro h q) (h.1 33 i) one oth) (h.1 26 b) t = some st → hld g st → WP alC mX6_value (k + 2) (fun x h' => x = vI v ∧ ∃ g, h' = sV h 27 b g) 6 [some (vR 6 b), some (vR 3 q), some (vR 8 i), some (vI (nI one)), some (vI (nI oth)), some (vI (nI st.length)), some (vI (nI t)), none] [] (sV h 27 b g) := by
    refine loop_up m ?_ (fun t ht ih => ?_)
    · intro g st e hg
      rw [hev] at e
      cases e
      refine wp_at tX6_value [] 20 6 okC kX6_value ⟨fun _ => ⟨ix1 40 (by omega), ?_, g, rfl⟩, fun c => ?_⟩
      · have := hg 0 (by simp)
        rw [nI_clamp (by omega), sV_same]
        have e2 : some v = some (g 0) := this
        cases e2
        rfl
      · exfalso
        have c' : ¬ (sV h 27 b g).1 6 b 2 ≤ nI m := c
        rw [rdVj, if_neg (by simp), hm] at c'
        exact c' (nI_le (Nat.le_refl _) (by omega))
    · intro g st e hg
      have hlen := evN_len e
      obtain ⟨st2, e2⟩ := evN_dn (show t + 1 ≤ m by omega) hev
      obtain ⟨s0, e3, e4⟩ := evN_some e2
      rw [e] at e3
      cases e3
      have ih := ih
      rw [← nI_add t 1] at ih
      have r1 : (sV h 27 b g).1 6 b 2 = nI m := by rw [rdVj, if_neg (by simp), hm]
      have r2 : (sV h 27 b g).1 26 b = h.1 26 b := by rw [rdV, if_neg (by simp)]
      have r3 : ro (sV h 27 b g) q = ro h q := by funext p; show (sV h 27 b g).1 38 (5 * q + p) = _; rw [rdV, if_neg (by simp)]
      have r4 : (sV h 27 b g).1 33 i = h.1 33 i := by rw [rdV, if_neg (by simp)]
      refine wp_at tX6_value [(6, [true, true, true, true, true, true, true, false])] 60 6 okC kX6_value ⟨fun c => absurd c (by rw [r1]; exact nI_ge ht (by omega)), fun _ => ⟨ix1 40 (by omega), ?_⟩⟩
      rw [nI_clamp (by omega), r2]
      unfold ev1 at e4
      refine ⟨fun c => ⟨_, c_isLetter, ?_⟩, fun c => ⟨ix1 40 (by omega), ?_⟩⟩
      · rintro x h' ⟨rfl, rfl⟩
        rw [if_neg (i_len c)] at e4
        refine ⟨fun c2 => ⟨fun c3 => ?_, fun c3 => ?_⟩, fun c2 => ⟨_, c_letter h1 h2, ?_⟩⟩
        · rw [if_neg (by rw [b2_0.mp c2]; decide), if_neg c3] at e4
          split at e4
          next b0 a0 st0 =>
            cases e4
            obtain ⟨g1, g2⟩ := hld_top hg
            obtain ⟨g3, g4⟩ := hld_top g2
            have hl3 : st0.length + 2 ≤ t := hlen
            have m1 : nI (b0 :: a0 :: st0).length + -(nI 1) = nI (st0.length + 1) := pk_m1 _
            have m2 : nI (st0.length + 1) - nI 1 = nI st0.length := pk_sub (by omega)
            refine ⟨?_, ?_, ?_⟩
            · rw [m1, m2]; exact ix1 40 (by omega)
            · rw [m1]; exact ix1 40 (by omega)
            · rw [m1, m2, nI_clamp (by omega), nI_clamp (by omega), sV_same]
              refine ⟨_, c_joined, ?_⟩
              rintro x h' ⟨rfl, rfl⟩
              refine ⟨ix1 40 (by omega), ?_⟩
              have hg1 : g (st0.length + 1) = b0 := g1
              rw [nI_clamp (by omega), hg1, g3, sV_sX]
              exact ih _ _ e2 (hld_push g4)
          next => cases e4
        · rw [if_neg (by rw [b2_0.mp c2]; decide), if_pos (nn c3)] at e4
          split at e4
          next a0 st0 =>
            cases e4
            obtain ⟨g1, g2⟩ := hld_top hg
            have hl3 : st0.length + 1 ≤ t := hlen
            have m2 : nI (a0 :: st0).length - nI 1 = nI st0.length := pk_sub (by omega)
            refine ⟨?_, ?_, ?_⟩
            · rw [m2]; exact ix1 40 (by omega)
            · rw [m2]; exact ix1 40 (by omega)
            · rw [m2, nI_clamp (by omega), sV_same, g1, sV_sX]
              exact ih _ _ e2 (hld_push g2)
          next => cases e4
        · rintro x h' ⟨rfl, rfl⟩
          rw [if_pos (b2_n0.mp c2)] at e4
          cases e4
          refine ⟨ix1 40 (by omega), ?_⟩
          rw [nI_clamp (by omega), r3, r4, sV_sX, nI_add]
          exact ih _ _ e2 (hld_push hg)
      · rw [if_pos (i_nlt c)] at e4
        cases e4
        rw [nI_clamp (by omega), sV_sX, nI_add]
        exact ih _ _ e2 (hld_push hg)
  refine ct_vc tX6_value [(6, [true, true, true, true, true, true, true, false])] 20 okC kX6_value rfl ?_
  have := L 0 (by omega) (h.1 27 b) [] rfl (fun j hj => by simp at hj)
  rw [sV_id] at this
  exact this
end
