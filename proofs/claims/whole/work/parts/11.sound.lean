/-! THE WALK IS SOUND -/
def inG (i : Nat) (w : Cond) : Bool := decide (lw_tbl[i]? = some w) && goodWord w
theorem inG_ok {i : Nat} {w : Cond} (h : inG i w = true) : w ∈ gt := by
  unfold inG at h
  rw [Bool.and_eq_true] at h
  exact List.mem_filter.mpr ⟨List.mem_of_getElem? (of_decide_eq_true h.1), h.2⟩
/-- an instruction's length -/
def lnf : Instr → Nat
  | .aload _ => 2
  | .iload _ => 2
  | .lload _ => 2
  | .astore _ => 2
  | .istore _ => 2
  | .lstore _ => 2
  | .bipush _ => 2
  | .ldc _ => 2
  | .sipush _ => 3
  | .new _ => 3
  | .invokespecial _ => 3
  | .ldc_w _ => 3
  | .ldc2_w _ => 3
  | .iinc _ _ => 3
  | .ifCond _ _ => 3
  | .if_icmp _ _ => 3
  | .goto _ => 3
  | .getfield _ => 3
  | .putfield _ => 3
  | .invokestatic _ => 3
  | .invokevirtual _ => 3
  | _ => 1
def kvI (aux : List Nat) (x : Int32) : Bool := match aux with
  | 0 :: a :: _ => decide (x = nI a)
  | 1 :: a :: _ => decide (x = -(nI a))
  | _ => false
def isSw : Instr → Bool
  | .tableswitch _ _ _ _ => true
  | .lookupswitch _ _ => true
  | _ => false
def ptOK (t : Nat) (ds : String) (y : Nat) : Bool := match t with
  | 0 => decide (ds = "I")
  | 1 => decide (ds = "Z")
  | 3 => decide (ds = "LByTheThumbs$Rule;" ∨ ds = "[B")
  | 4 => decide (ds = "[B" ∧ y = 43)
  | _ => false
def rkOK (rk : Nat) (ret : Option FieldType) : Bool := match rk with
  | 0 => decide (ret = some .int)
  | 1 => decide (ret = some .boolean)
  | 2 => decide (ret = some .long)
  | 3 => decide (ret = none)
  | _ => false
def ckF (M : MT) (idx : Nat) (aux : List Nat) (put : Bool) : Bool := match aux with
  | [ci, kf, t, x, y, z, w] => (match vwCl[ci]?, shp ci with
    | some q, .inl fds => decide (kf < q.2.2) && inG w (.fieldLink M.1.cls idx (q.2.1 kf).1 (q.2.1 kf).2.1 (q.2.1 kf).2.2.1) && decide (fds[kf]? = some (t, x, y, z)) && decide (t ≤ 4) && (!put || (!(q.2.1 kf).2.2.2 && decide (y < 90) && ptOK t (q.2.1 kf).2.2.1 y))
    | _, _ => false)
  | _ => false
def yOK (Mc : MT) (n rf : Nat) : Bool := decide (Mc.1.cls ≠ "java/lang/invoke/MethodHandle" ∧ Mc.1.cls ≠ "java/lang/invoke/VarHandle" ∧ (parseMethodDescriptor Mc.1.desc).map (fun d => d.parameters.length) = some n) && Nat.ble Mc.2.2.1 41 && (match Mc.2.2.2, rf with
  | none, 0 => true
  | some _, 1 => true
  | _, _ => false)
def ckA (M : MT) (pc : Nat) (ins : Instr) (aux : List Nat) (Mc : MT) : Bool := match ins with
  | .iconst n => kvI aux (Int32.ofInt n)
  | .bipush n => kvI aux ((Int8.ofInt n).toInt32)
  | .sipush n => kvI aux ((Int16.ofInt n).toInt32)
  | .ldc_w idx => (match aux with
    | [0, a, w] => inG w (.constant M.1.cls idx (nI a))
    | _ => false)
  | .lconst n => (match aux with
    | [a] => decide (Int64.ofNat (n : Nat) = lN a)
    | _ => false)
  | .ldc2_w idx => (match aux with
    | [a, w] => inG w (.constantLong M.1.cls idx (lN a))
    | _ => false)
  | .ldc idx => (match aux with
    | [90, i] => strOK M.1.cls idx i
    | _ => false)
  | .iinc i n => kvI aux (Int32.ofInt n) && Nat.blt i M.2.2.1
  | .ifCond _ off => decide ((pc : Int) + off = ((aux.headD 0 : Nat) : Int))
  | .if_icmp _ off => decide ((pc : Int) + off = ((aux.headD 0 : Nat) : Int))
  | .goto off => decide ((pc : Int) + off = ((aux.headD 0 : Nat) : Int))
  | .getfield idx => ckF M idx aux false
  | .putfield idx => ckF M idx aux true
  | .tableswitch dflt lo hi offs => decide (prs aux.tail = (offs.toList.zipIdx).map (fun q => ((lo + (q.2 : Int)).toNat, ((pc : Int) + q.1).toNat))) && decide (0 ≤ lo) && offs.toList.all (fun o => decide (0 ≤ (pc : Int) + o)) && decide (hi + 1 = lo + offs.size) && (prs aux.tail).all (fun q => decide (q.1 < 2147483648)) && decide (((aux.headD 0 : Nat) : Int) = (pc : Int) + dflt)
  | .lookupswitch dflt ps => decide ((prs aux.tail).map (fun q => ((q.1 : Int), (q.2 : Int) - (pc : Int))) = ps.toList) && (ps.toList.zip (ps.toList.drop 1)).all (fun (a, next) => a.1 < next.1) && (prs aux.tail).all (fun q => decide (q.1 < 2147483648)) && decide (((aux.headD 0 : Nat) : Int) = (pc : Int) + dflt)
  | .invokestatic idx => (match aux with
    | [0, n, rf, w1, w2, w3, w4] => inG w1 (.methodLink M.1.cls idx Mc.1) && inG w2 (.static Mc.1) && inG w3 (.initialized Mc.1.cls) && inG w4 (.code Mc.1 Mc.2.1 Mc.2.2.1 Mc.2.2.2) && yOK Mc n rf
    | [1, w1, w2, w3, w4] => inG w1 (.methodLink M.1.cls idx Lib.Math.max.name) && inG w2 (.static Lib.Math.max.name) && inG w3 (.initialized "java/lang/Math") && inG w4 (.code Lib.Math.max.name Lib.Math.max.code 2 (some .int))
    | [2, w1, w2, w3, w4] => inG w1 (.methodLink M.1.cls idx Lib.Math.min.name) && inG w2 (.static Lib.Math.min.name) && inG w3 (.initialized "java/lang/Math") && inG w4 (.code Lib.Math.min.name Lib.Math.min.code 2 (some .int))
    | [3, w1, w2, w3, w4] => inG w1 (.methodLink M.1.cls idx Lib.MathLoose.max_long.x) && inG w2 (.static Lib.MathLoose.max_long.x) && inG w3 (.initialized "java/lang/Math") && inG w4 (.code Lib.MathLoose.max_long.x Lib.MathLoose.max_long.code 4 (some .long))
    | [4, w1, w2, w3, w4] => inG w1 (.methodLink M.1.cls idx Lib.MathLoose.min_long.x) && inG w2 (.static Lib.MathLoose.min_long.x) && inG w3 (.initialized "java/lang/Math") && inG w4 (.code Lib.MathLoose.min_long.x Lib.MathLoose.min_long.code 4 (some .long))
    | [5, w1, w2, w3, w4] => inG w1 (.methodLink M.1.cls idx Lib.MathLoose.abs_long.x) && inG w2 (.static Lib.MathLoose.abs_long.x) && inG w3 (.initialized "java/lang/Math") && inG w4 (.code Lib.MathLoose.abs_long.x Lib.MathLoose.abs_long.code 2 (some .long))
    | [6, w1, w2, w3, w4] => inG w1 (.methodLink M.1.cls idx arraycopyName) && inG w2 (.native arraycopyName) && inG w3 (.static arraycopyName) && inG w4 (.initialized "java/lang/System")
    | _ => false)
  | .invokevirtual idx => (match aux with
    | [ci, n, rf, w1, w2, w5, w3, w4] => inG w1 (.methodLink M.1.cls idx Mc.1) && inG w2 (.instanceMethod Mc.1) && inG w5 (.selects Mc.1.cls Mc.1 Mc.1) && inG w3 (.initialized Mc.1.cls) && inG w4 (.code Mc.1 Mc.2.1 Mc.2.2.1 Mc.2.2.2) && yOK Mc n rf && (match ci with
      | 90 => decide ("java/lang/String" = Mc.1.cls)
      | _ => (match vwCl[ci]?, shp ci with
        | some q, .inl _ => decide (q.1 = Mc.1.cls)
        | _, _ => false))
    | _ => false)
  | _ => true
def okOp (M : MT) (o : Op) : Bool := (match decode M.2.1 o.1 with
  | .ok q => decide (q = (o.2.1, o.2.2.1))
  | .error _ => false) && (isSw o.2.1 || (o.2.2.1 == lnf o.2.1)) && ckA M o.1 o.2.1 o.2.2.2.1 o.2.2.2.2
def seqOK : List Op → Bool
  | o :: o2 :: r => (o2.1 == o.1 + o.2.2.1) && seqOK (o2 :: r)
  | _ => true
/-- a method's table is right; rk: what it returns (0 int, 1 boolean, 2 long, 3 nothing) -/
def tabOK (M : MT) (rk : Nat) (tab : List Op) : Bool := tab.all (okOp M) && seqOK tab && plainName M.1.cls && rkOK rk M.2.2.2
theorem kvI_0 {a : Nat} {r : List Nat} {x : Int32} (h : kvI (0 :: a :: r) x = true) : x = nI a := of_decide_eq_true h
theorem kvI_1 {a : Nat} {r : List Nat} {x : Int32} (h : kvI (1 :: a :: r) x = true) : x = -(nI a) := of_decide_eq_true h
theorem cst_ok {aux : List Nat} {st st' : List AV} {x : Int32} (hv : cst aux st = some st') (hk : kvI aux x = true) : st' = vI x :: st := by
  unfold cst at hv
  split at hv
  · cases hv; rw [kvI_0 hk]
  · cases hv; rw [kvI_1 hk]
  · cases hv
section SOUND
variable {al : List Ad} {M : MT} {k : Nat} {P : AV → Hp → Prop} {pc : Nat} {lv : List (Option AV)} {st : List AV} {h : Hp}
theorem ldI_ok {o : Option (Option AV)} {v : AV} (h : ldI o = some v) : ∃ x, v = vI x ∧ o = some (some (vI x)) := by
  unfold ldI at h
  split at h
  · cases h; exact ⟨_, rfl, rfl⟩
  · cases h
theorem ldL_ok {o : Option (Option AV)} {v : AV} (h : ldL o = some v) : ∃ x, v = vL x ∧ o = some (some (vL x)) := by
  unfold ldL at h
  split at h
  · cases h; exact ⟨_, rfl, rfl⟩
  · cases h
theorem ldA_ok {o : Option (Option AV)} {v : AV} (h : ldA o = some v) : ∃ a : Ad, v = .inr (.inr a) ∧ o = some (some (.inr (.inr a))) := by
  unfold ldA at h
  split at h
  · cases h; exact ⟨_, rfl, rfl⟩
  · cases h
theorem ldv_ok {ins : Instr} {v : AV} (hd : decode M.2.1 pc = .ok (ins, lnf ins)) (hv : ldv ins lv = some v) (kk : WP al M k P (pc + lnf ins) lv (v :: st) h) : WP al M k P pc lv st h := by
  unfold ldv at hv
  split at hv
  · obtain ⟨x, rfl, hx⟩ := ldI_ok hv; exact wp_iload hd hx kk
  · obtain ⟨x, rfl, hx⟩ := ldI_ok hv; exact wp_iload_n hd hx kk
  · obtain ⟨x, rfl, hx⟩ := ldL_ok hv; exact wp_lload hd hx kk
  · obtain ⟨x, rfl, hx⟩ := ldL_ok hv; exact wp_lload_n hd hx kk
  · obtain ⟨x, rfl, hx⟩ := ldA_ok hv; exact wp_aload hd hx kk
  · obtain ⟨x, rfl, hx⟩ := ldA_ok hv; exact wp_aload_n hd hx kk
  · cases hv
theorem pur_ok {ins : Instr} {aux : List Nat} {Mc : MT} {st' : List AV} (hd : decode M.2.1 pc = .ok (ins, lnf ins)) (hc : ckA M pc ins aux Mc = true) (hv : pur ins aux st = some st') (kk : WP al M k P (pc + lnf ins) lv st' h) : WP al M k P pc lv st h := by
  unfold pur at hv
  split at hv
  · rw [cst_ok hv hc] at kk; exact wp_iconst hd kk
  · rw [cst_ok hv hc] at kk; exact wp_bipush hd kk
  · rw [cst_ok hv hc] at kk; exact wp_sipush hd kk
  · dsimp only [ckA] at hc
    split at hc
    · cases hv; exact wp_ldcw hd (inG_ok hc) kk
    · cases hc
  · split at hv
    · cases hv; exact wp_iadd hd kk
    · cases hv
  · split at hv
    · cases hv; exact wp_isub hd kk
    · cases hv
  · split at hv
    · cases hv; exact wp_imul hd kk
    · cases hv
  · split at hv
    · cases hv; exact wp_iand hd kk
    · cases hv
  · split at hv
    · cases hv; exact wp_ior hd kk
    · cases hv
  · split at hv
    · cases hv; exact wp_ixor hd kk
    · cases hv
  · split at hv
    · cases hv; exact wp_ishl hd kk
    · cases hv
  · split at hv
    · cases hv; exact wp_ishr hd kk
    · cases hv
  · split at hv
    · cases hv; exact wp_iushr hd kk
    · cases hv
  · split at hv
    · cases hv; exact wp_ineg hd kk
    · cases hv
  · split at hv
    · cases hv; exact wp_ladd hd kk
    · cases hv
  · split at hv
    · cases hv; exact wp_lsub hd kk
    · cases hv
  · split at hv
    · cases hv; exact wp_lmul hd kk
    · cases hv
  · split at hv
    · cases hv; exact wp_lcmp hd kk
    · cases hv
  · split at hv
    · cases hv; exact wp_i2l hd kk
    · cases hv
  · split at hv
    · cases hv; exact wp_l2i hd kk
    · cases hv
  · split at hv
    · cases hv; exact wp_i2b hd kk
    · cases hv
  · split at hv
    · cases hv; exact wp_i2s hd kk
    · cases hv
  · dsimp only [ckA] at hc
    split at hc
    · cases hv
      rw [← of_decide_eq_true hc] at kk
      exact wp_lconst hd kk
    · cases hc
  · dsimp only [ckA] at hc
    split at hc
    · cases hv; exact wp_ldc2 hd (inG_ok hc) kk
    · cases hc
  · split at hv
    · split at hv
      next h1 => cases hv; exact wp_dup hd h1 kk
      next => cases hv
    · cases hv
  · split at hv
    · split at hv
      next h1 => cases hv; exact wp_pop hd h1 kk
      next => cases hv
    · cases hv
  · split at hv
    · split at hv
      next h1 h2 => cases hv; exact wp_dup_x1 hd h1 h2 kk
      next => cases hv
    · cases hv
  · split at hv
    · split at hv
      next h1 h2 => cases hv; exact wp_dup2 hd h1 h2 kk
      next => cases hv
    · cases hv
  · cases hv
theorem blt_ok {a b : Nat} (h : Nat.blt a b = true) : a < b := Nat.lt_of_lt_of_le (Nat.lt_succ_self a) (Nat.le_of_ble_eq_true h)
theorem sto_ok {ins : Instr} {lv' : List (Option AV)} {st' : List AV} (hd : decode M.2.1 pc = .ok (ins, lnf ins)) (hv : sto M.2.2.1 ins lv st = some (lv', st')) (kk : WP al M k P (pc + lnf ins) lv' st' h) : WP al M k P pc lv st h := by
  unfold sto at hv
  split at hv
  · split at hv
    · split at hv
      next h1 => cases hv; exact wp_istore hd (blt_ok h1) kk
      next => cases hv
    · cases hv
  · split at hv
    · split at hv
      next h1 => cases hv; exact wp_istore_n hd (blt_ok h1) kk
      next => cases hv
    · cases hv
  · split at hv
    · split at hv
      next h1 => cases hv; exact wp_lstore hd (blt_ok h1) kk
      next => cases hv
    · cases hv
  · split at hv
    · split at hv
      next h1 => cases hv; exact wp_lstore_n hd (blt_ok h1) kk
      next => cases hv
    · cases hv
  · split at hv
    · split at hv
      next h1 => cases hv; exact wp_astore hd (blt_ok h1) kk
      next => cases hv
    · cases hv
  · split at hv
    · split at hv
      next h1 => cases hv; exact wp_astore_n hd (blt_ok h1) kk
      next => cases hv
    · cases hv
  · cases hv
theorem bra_ok {ins : Instr} {aux : List Nat} {Mc : MT} {c : Prop} {st' : List AV} (hd : decode M.2.1 pc = .ok (ins, lnf ins)) (hc : ckA M pc ins aux Mc = true) (hv : bra ins st = some (c, st')) (k1 : c → WP al M k P (aux.headD 0) lv st' h) (k2 : ¬ c → WP al M k P (pc + lnf ins) lv st' h) : WP al M k P pc lv st h := by
  unfold bra at hv
  split at hv
  · have ht := of_decide_eq_true (show decide _ = true from hc)
    split at hv
    · split at hv
      · cases hv; exact wp_if_eq hd ht k1 k2
      · cases hv; exact wp_if_ne hd ht k1 (fun q => k2 (fun z => z q))
      · cases hv; exact wp_if_lt hd ht k1 k2
      · cases hv; exact wp_if_ge hd ht k1 k2
      · cases hv; exact wp_if_gt hd ht k1 k2
      · cases hv; exact wp_if_le hd ht k1 k2
    · cases hv
  · have ht := of_decide_eq_true (show decide _ = true from hc)
    split at hv
    · split at hv
      · cases hv; exact wp_icmp_eq hd ht k1 k2
      · cases hv; exact wp_icmp_ne hd ht k1 (fun q => k2 (fun z => z q))
      · cases hv; exact wp_icmp_lt hd ht k1 k2
      · cases hv; exact wp_icmp_ge hd ht k1 k2
      · cases hv; exact wp_icmp_gt hd ht k1 k2
      · cases hv; exact wp_icmp_le hd ht k1 k2
    · cases hv
  · cases hv
end SOUND
section SOUND2
variable {al : List Ad} {M : MT} {k : Nat} {P : AV → Hp → Prop} {pc : Nat} {lv : List (Option AV)} {st : List AV} {h : Hp}
theorem and3 {a b : Bool} (h : (a && b) = true) : a = true ∧ b = true := by rwa [Bool.and_eq_true] at h
/-- what the check of a field's link says -/
theorem ckF_ok {idx : Nat} {ci kf t x y z w : Nat} {put : Bool} (h : ckF M idx [ci, kf, t, x, y, z, w] put = true) : ∃ (q : vw_C) (fds : List Fdk), vwCl[ci]? = some q ∧ shp ci = .inl fds ∧ kf < q.2.2 ∧ Cond.fieldLink M.1.cls idx (q.2.1 kf).1 (q.2.1 kf).2.1 (q.2.1 kf).2.2.1 ∈ gt ∧ fds[kf]? = some (t, x, y, z) ∧ t ≤ 4 ∧ (put = true → (q.2.1 kf).2.2.2 = false ∧ y < 90 ∧ ptOK t (q.2.1 kf).2.2.1 y = true) := by
  dsimp only [ckF] at h
  split at h
  next q fds h1 h2 =>
    obtain ⟨h, hp⟩ := and3 h
    obtain ⟨h, h4⟩ := and3 h
    obtain ⟨h, h5⟩ := and3 h
    obtain ⟨h3, h6⟩ := and3 h
    refine ⟨q, fds, h1, h2, of_decide_eq_true h3, inG_ok h6, of_decide_eq_true h5, of_decide_eq_true h4, fun e => ?_⟩
    subst e
    rw [Bool.not_true, Bool.false_or] at hp
    obtain ⟨hp, h8⟩ := and3 hp
    obtain ⟨h9, h10⟩ := and3 hp
    exact ⟨by simpa using h9, of_decide_eq_true h10, h8⟩
  next => cases h
theorem yOK_ok {Mc : MT} {n rf : Nat} (h : yOK Mc n rf = true) : (Mc.1.cls ≠ "java/lang/invoke/MethodHandle" ∧ Mc.1.cls ≠ "java/lang/invoke/VarHandle" ∧ (parseMethodDescriptor Mc.1.desc).map (fun d => d.parameters.length) = some n) ∧ Mc.2.2.1 ≤ 41 ∧ ((Mc.2.2.2 = none ∧ rf = 0) ∨ (∃ t, Mc.2.2.2 = some t) ∧ rf = 1) := by
  unfold yOK at h
  obtain ⟨h, h3⟩ := and3 h
  obtain ⟨h1, h2⟩ := and3 h
  refine ⟨of_decide_eq_true h1, Nat.le_of_ble_eq_true h2, ?_⟩
  split at h3
  next e => exact Or.inl ⟨e, rfl⟩
  next e => exact Or.inr ⟨⟨_, e⟩, rfl⟩
  next => cases h3
theorem popn_ok : ∀ (n : Nat) (st acc As rest : List AV), popn n st acc = some (As, rest) → acc.reverse ++ As = acc.reverse ++ As ∧ As.reverse ++ rest = acc.reverse ++ st ∧ As.length = acc.length + n
  | 0, st, acc, As, rest, h => by cases h; exact ⟨rfl, rfl, rfl⟩
  | n + 1, [], acc, As, rest, h => by cases h
  | n + 1, v :: st, acc, As, rest, h => by
    obtain ⟨-, h1, h2⟩ := popn_ok n st (v :: acc) As rest h
    refine ⟨rfl, by rw [h1, List.reverse_cons, List.append_assoc]; rfl, by rw [h2, List.length_cons]; omega⟩
theorem rfK {Mc : MT} {rf : Nat} {v : AV} {rest : List AV} {X Y : List AV → Prop} (h : match rf with
    | 0 => Y rest
    | _ => Y (v :: rest)) (hr : (Mc.2.2.2 = none ∧ rf = 0) ∨ (∃ t, Mc.2.2.2 = some t) ∧ rf = 1) (hXY : ∀ q, Y q → X q) : X (retL Mc.2.2.2 v rest) := by
  rcases hr with ⟨e, rfl⟩ | ⟨⟨t, e⟩, rfl⟩
  · rw [e]; exact hXY _ h
  · rw [e]; exact hXY _ h
/-- the rest of the instructions -/
theorem rst_ok {tab nx : List Op} {rk : Nat} {K : List Op → List (Option AV) → List AV → Hp → Prop} {ins : Instr} {len : Nat} {aux : List Nat} {Mc : MT} (hok : Okal al) (hd : decode M.2.1 pc = .ok (ins, len)) (hlen : (isSw ins || (len == lnf ins)) = true) (hc : ckA M pc ins aux Mc = true) (hrk : rkOK rk M.2.2.2 = true) (kn : ∀ lv st h, K nx lv st h → WP al M k P (pc + len) lv st h) (kj : ∀ t lv st h, K (jmp tab t) lv st h → WP al M k P t lv st h) (hv : rst al tab k P rk K ins aux Mc nx lv st h) : WP al M k P pc lv st h := by
  by_cases hsw : isSw ins = true
  · unfold rst at hv
    split at hv <;> first | (cases hsw; done) | skip
    · split at hv
      · dsimp only [ckA] at hc
        obtain ⟨hc, h6⟩ := and3 hc
        obtain ⟨hc, h5⟩ := and3 hc
        obtain ⟨hc, h4⟩ := and3 hc
        obtain ⟨hc, h3⟩ := and3 hc
        obtain ⟨h1, h2⟩ := and3 hc
        exact wp_table hd (of_decide_eq_true h1) (of_decide_eq_true h2) (fun o ho => of_decide_eq_true (List.all_eq_true.mp h3 o ho)) (of_decide_eq_true h4) (fun q hq => of_decide_eq_true (List.all_eq_true.mp h5 q hq)) (of_decide_eq_true h6) (swP_mono (fun t ht => kj t _ _ _ ht) _ hv)
      · cases hv
    · split at hv
      · dsimp only [ckA] at hc
        obtain ⟨hc, h6⟩ := and3 hc
        obtain ⟨hc, h5⟩ := and3 hc
        obtain ⟨h1, h2⟩ := and3 hc
        exact wp_lookup hd h2 (of_decide_eq_true h1) (fun q hq => of_decide_eq_true (List.all_eq_true.mp h5 q hq)) (of_decide_eq_true h6) (swP_mono (fun t ht => kj t _ _ _ ht) _ hv)
      · cases hv
    · exact hv.elim
  · have hsw' : isSw ins = false := by simpa using hsw
    rw [hsw', Bool.false_or] at hlen
    have e : len = lnf ins := by simpa using hlen
    subst e
    unfold rst at hv
    split at hv
    · -- goto
      exact wp_goto hd (of_decide_eq_true hc) (kj _ _ _ _ hv)
    · -- iinc
      obtain ⟨h1, h2⟩ := and3 (show (kvI aux _ && Nat.blt _ _) = true from hc)
      split at hv
      next x a r e1 =>
        obtain ⟨x', e2, e3⟩ := ldI_ok e1
        cases e2
        refine wp_iinc hd (blt_ok h2) e3 ?_
        rw [kvI_0 h1]
        exact kn _ _ _ hv
      next x a r e1 =>
        obtain ⟨x', e2, e3⟩ := ldI_ok e1
        cases e2
        refine wp_iinc hd (blt_ok h2) e3 ?_
        rw [kvI_1 h1]
        exact kn _ _ _ hv
      next => exact hv.elim
    · split at hv
      · exact wp_idiv hd hv.1 (kn _ _ _ hv.2)
      · exact hv.elim
    · split at hv
      · exact wp_irem hd hv.1 (kn _ _ _ hv.2)
      · exact hv.elim
    · split at hv
      · exact wp_ldiv hd hv.1 (kn _ _ _ hv.2)
      · exact hv.elim
    · split at hv
      · exact wp_lrem hd hv.1 (kn _ _ _ hv.2)
      · exact hv.elim
    · -- ldc
      dsimp only [ckA] at hc
      split at hc
      · exact wp_ldcs hd hc (kn _ _ _ hv)
      · cases hc
    · -- getfield
      split at hv
      next kd i st ci kf t x y z r =>
        split at hv
        next hkd =>
          have e : kd = ci := by simpa using hkd
          subst e
          have hr : ∃ w, r = [w] := by
            match r, hc with
            | [w], _ => exact ⟨w, rfl⟩
            | [], hc => cases hc
            | _ :: _ :: _, hc => cases hc
          obtain ⟨w, rfl⟩ := hr
          obtain ⟨q, fds, h1, h2, h3, h4, h5, h6, -⟩ := ckF_ok hc
          split at hv
          · exact wp_getfield hok hd h1 h3 h4 h2 h5 (by omega) (fun z => by cases z) (kn _ _ _ hv)
          · exact wp_getfield hok hd h1 h3 h4 h2 h5 (by omega) (fun z => by cases z) (kn _ _ _ hv)
          · split at hv
            · exact wp_getfield hok hd h1 h3 h4 h2 h5 (by omega) (fun z => by cases z) (kn _ _ _ hv)
            next hy =>
              refine wp_getfield hok hd h1 h3 h4 h2 h5 (by omega) (fun z => by cases z) ?_
              have K1 := kn _ _ _ hv
              match y, hy, K1 with
              | 0, hy, _ => exact absurd rfl hy
              | y + 1, _, K1 => exact K1
          · exact wp_getfield hok hd h1 h3 h4 h2 h5 (by omega) (fun z => by cases z) (kn _ _ _ hv)
          · exact wp_getfield hok hd h1 h3 h4 h2 h5 (by omega) (fun _ => hv.1) (kn _ _ _ hv.2)
          · exact hv.elim
        next => exact hv.elim
      next => exact hv.elim
    · -- putfield
      split at hv
      next v kd i st ci kf t r =>
        split at hv
        next hkd =>
          have e : kd = ci := by simpa using hkd
          subst e
          have hr : ∃ x y z w, r = [x, y, z, w] := by
            match r, hc with
            | [x, y, z, w], _ => exact ⟨x, y, z, w, rfl⟩
            | [], hc => cases hc
            | [_], hc => cases hc
            | [_, _], hc => cases hc
            | [_, _, _], hc => cases hc
            | _ :: _ :: _ :: _ :: _ :: _, hc => cases hc
          obtain ⟨x, y, z, w, rfl⟩ := hr
          obtain ⟨q, fds, h1, h2, h3, h4, h5, h6, hp⟩ := ckF_ok hc
          obtain ⟨h7, h8, h9⟩ := hp rfl
          split at hv
          · have e9 := of_decide_eq_true (show decide _ = true from h9)
            exact wp_putf (ty := .int) hok hd h1 h3 h4 h2 h5 (by omega) h7 (by rw [e9]; decide) rfl rfl (kn _ _ _ hv)
          · have e9 := of_decide_eq_true (show decide _ = true from h9)
            exact wp_putf (ty := .boolean) hok hd h1 h3 h4 h2 h5 (by omega) h7 (by rw [e9]; decide) (by rcases hv.1 with rfl | rfl <;> rfl) (by rcases hv.1 with rfl | rfl <;> rfl) (kn _ _ _ hv.2)
          · exact hv.elim
        next => exact hv.elim
      next kd2 i2 kd i st ci kf t x y r =>
        split at hv
        next hkd =>
          obtain ⟨q1, q2⟩ := and3 hkd
          have e : kd = ci := by simpa using q1
          have e' : kd2 = y := by simpa using q2
          subst e
          subst e'
          have hr : ∃ z w, r = [z, w] := by
            match r, hc with
            | [z, w], _ => exact ⟨z, w, rfl⟩
            | [], hc => cases hc
            | [_], hc => cases hc
            | _ :: _ :: _ :: _, hc => cases hc
          obtain ⟨z, w, rfl⟩ := hr
          obtain ⟨q, fds, h1, h2, h3, h4, h5, h6, hp⟩ := ckF_ok hc
          obtain ⟨h7, h8, h9⟩ := hp rfl
          split at hv
          · have e9 := of_decide_eq_true (show decide _ = true from h9)
            rcases e9 with e9 | e9
            · exact wp_putd (ty := .object "ByTheThumbs$Rule") hok hd h1 h3 h4 h2 h5 (Or.inl rfl) h8 h7 (by rw [e9]; decide) (fun _ => rfl) (fun _ => rfl) (kn _ _ _ hv)
            · exact wp_putd (ty := .array .byte) hok hd h1 h3 h4 h2 h5 (Or.inl rfl) h8 h7 (by rw [e9]; decide) (fun _ => rfl) (fun _ => rfl) (kn _ _ _ hv)
          · have e9 := of_decide_eq_true (show decide _ = true from h9)
            exact wp_putd (ty := .array .byte) hok hd h1 h3 h4 h2 h5 (Or.inr ⟨rfl, e9.2⟩) h8 h7 (by rw [e9.1]; decide) (fun _ => rfl) (fun _ => rfl) (kn _ _ _ hv)
          · exact hv.elim
        next => exact hv.elim
      next => exact hv.elim
    · -- iaload
      split at hv
      · split at hv
        next e => exact wp_iaload hd e rfl hv.1 (kn _ _ _ hv.2)
        next => exact hv.elim
      · exact hv.elim
    · split at hv
      · split at hv
        next e => exact wp_baload hd e (Or.inl rfl) hv.1 (kn _ _ _ hv.2)
        next e => exact wp_baload hd e (Or.inr rfl) hv.1 (kn _ _ _ hv.2)
        next => exact hv.elim
      · exact hv.elim
    · split at hv
      · split at hv
        next e => exact wp_laload hd e rfl hv.1 (kn _ _ _ hv.2)
        next => exact hv.elim
      · exact hv.elim
    · split at hv
      · split at hv
        next e => exact wp_aaload hok hd e (Or.inl rfl) hv.1 (kn _ _ _ hv.2)
        next e => exact wp_aaload hok hd e (Or.inr rfl) hv.1 (kn _ _ _ hv.2)
        next e => exact wp_aaload hok hd e (Or.inr rfl) hv.1 (kn _ _ _ hv.2)
        next => exact hv.elim
      · exact hv.elim
    · split at hv
      · split at hv
        next e => exact wp_iastore hok hd e rfl hv.1 (kn _ _ _ hv.2)
        next => exact hv.elim
      · exact hv.elim
    · split at hv
      · split at hv
        next e => exact wp_bastore hok hd e rfl hv.1 (kn _ _ _ hv.2)
        next e => exact wp_zastore hok hd e rfl hv.1 (kn _ _ _ hv.2)
        next => exact hv.elim
      · exact hv.elim
    · split at hv
      · split at hv
        next e => exact wp_lastore hok hd e rfl hv.1 (kn _ _ _ hv.2)
        next => exact hv.elim
      · exact hv.elim
    · split at hv
      · split at hv
        next e => exact wp_alen hd e rfl (kn _ _ _ hv)
        next => exact hv.elim
      · exact hv.elim
    · cases hsw'
    · cases hsw'
    · split at hv
      · split at hv
        · exact wp_ireturn hd (of_decide_eq_true hrk) hv
        · exact wp_zreturn hd (of_decide_eq_true hrk) hv.1 hv.2
        · exact hv.elim
      · exact hv.elim
    · split at hv
      · split at hv
        · exact wp_lreturn hd (of_decide_eq_true hrk) hv
        · exact hv.elim
      · exact hv.elim
    · split at hv
      · split at hv
        · exact wp_return hd (of_decide_eq_true hrk) hv
        · exact hv.elim
      · exact hv.elim
    · -- invokestatic
      split at hv
      · exact hv.elim
      next k' =>
        split at hv
        next n rf r =>
          split at hv
          next As rest e1 =>
            split at hv
            next e2 =>
              obtain ⟨P', hC, hk⟩ := hv
              obtain ⟨-, p2, p3⟩ := popn_ok _ _ _ _ _ e1
              have hr : ∃ w1 w2 w3 w4, r = [w1, w2, w3, w4] := by
                match r, hc with
                | [w1, w2, w3, w4], _ => exact ⟨w1, w2, w3, w4, rfl⟩
                | [], hc => cases hc
                | [_], hc => cases hc
                | [_, _], hc => cases hc
                | [_, _, _], hc => cases hc
                | _ :: _ :: _ :: _ :: _ :: _, hc => cases hc
              obtain ⟨w1, w2, w3, w4, rfl⟩ := hr
              dsimp only [ckA] at hc
              obtain ⟨hc, c5⟩ := and3 hc
              obtain ⟨hc, c4⟩ := and3 hc
              obtain ⟨hc, c3⟩ := and3 hc
              obtain ⟨c1, c2⟩ := and3 hc
              obtain ⟨y1, y2, y3⟩ := yOK_ok c5
              rw [show st = As.reverse ++ rest from p2.symm]
              exact wp_callS hd (by rw [p3]; exact Nat.zero_add _) (inG_ok c1) (inG_ok c2) (inG_ok c3) (inG_ok c4) y1 y2 (Nat.le_of_ble_eq_true e2) hC (fun v h' hp => rfK (X := fun q => WP al M (k' + 1) P (pc + 3) lv q h') (Y := fun q => K nx lv q h') (hk v h' hp) y3 (fun _ z => kn _ _ _ z))
            next => exact hv.elim
          next => exact hv.elim
        next r =>
          have hr : ∃ w1 w2 w3 w4, r = [w1, w2, w3, w4] := by
            match r, hc with
            | [w1, w2, w3, w4], _ => exact ⟨w1, w2, w3, w4, rfl⟩
            | [], hc => cases hc
            | [_], hc => cases hc
            | [_, _], hc => cases hc
            | [_, _, _], hc => cases hc
            | _ :: _ :: _ :: _ :: _ :: _, hc => cases hc
          obtain ⟨w1, w2, w3, w4, rfl⟩ := hr
          dsimp only [ckA] at hc
          obtain ⟨hc, c4⟩ := and3 hc
          obtain ⟨hc, c3⟩ := and3 hc
          obtain ⟨c1, c2⟩ := and3 hc
          split at hv
          · split at hv
            next e2 => exact wp_mmax hd (inG_ok c1) (inG_ok c2) (inG_ok c3) (inG_ok c4) (Nat.le_of_ble_eq_true e2) (kn _ _ _ hv)
            next => exact hv.elim
          · exact hv.elim
        next r =>
          have hr : ∃ w1 w2 w3 w4, r = [w1, w2, w3, w4] := by
            match r, hc with
            | [w1, w2, w3, w4], _ => exact ⟨w1, w2, w3, w4, rfl⟩
            | [], hc => cases hc
            | [_], hc => cases hc
            | [_, _], hc => cases hc
            | [_, _, _], hc => cases hc
            | _ :: _ :: _ :: _ :: _ :: _, hc => cases hc
          obtain ⟨w1, w2, w3, w4, rfl⟩ := hr
          dsimp only [ckA] at hc
          obtain ⟨hc, c4⟩ := and3 hc
          obtain ⟨hc, c3⟩ := and3 hc
          obtain ⟨c1, c2⟩ := and3 hc
          split at hv
          · split at hv
            next e2 => exact wp_mmin hd (inG_ok c1) (inG_ok c2) (inG_ok c3) (inG_ok c4) (Nat.le_of_ble_eq_true e2) (kn _ _ _ hv)
            next => exact hv.elim
          · exact hv.elim
        next r =>
          have hr : ∃ w1 w2 w3 w4, r = [w1, w2, w3, w4] := by
            match r, hc with
            | [w1, w2, w3, w4], _ => exact ⟨w1, w2, w3, w4, rfl⟩
            | [], hc => cases hc
            | [_], hc => cases hc
            | [_, _], hc => cases hc
            | [_, _, _], hc => cases hc
            | _ :: _ :: _ :: _ :: _ :: _, hc => cases hc
          obtain ⟨w1, w2, w3, w4, rfl⟩ := hr
          dsimp only [ckA] at hc
          obtain ⟨hc, c4⟩ := and3 hc
          obtain ⟨hc, c3⟩ := and3 hc
          obtain ⟨c1, c2⟩ := and3 hc
          split at hv
          · split at hv
            next e2 => exact wp_mmaxL hd (inG_ok c1) (inG_ok c2) (inG_ok c3) (inG_ok c4) (Nat.le_of_ble_eq_true e2) (kn _ _ _ hv)
            next => exact hv.elim
          · exact hv.elim
        next r =>
          have hr : ∃ w1 w2 w3 w4, r = [w1, w2, w3, w4] := by
            match r, hc with
            | [w1, w2, w3, w4], _ => exact ⟨w1, w2, w3, w4, rfl⟩
            | [], hc => cases hc
            | [_], hc => cases hc
            | [_, _], hc => cases hc
            | [_, _, _], hc => cases hc
            | _ :: _ :: _ :: _ :: _ :: _, hc => cases hc
          obtain ⟨w1, w2, w3, w4, rfl⟩ := hr
          dsimp only [ckA] at hc
          obtain ⟨hc, c4⟩ := and3 hc
          obtain ⟨hc, c3⟩ := and3 hc
          obtain ⟨c1, c2⟩ := and3 hc
          split at hv
          · split at hv
            next e2 => exact wp_mminL hd (inG_ok c1) (inG_ok c2) (inG_ok c3) (inG_ok c4) (Nat.le_of_ble_eq_true e2) (kn _ _ _ hv)
            next => exact hv.elim
          · exact hv.elim
        next r =>
          have hr : ∃ w1 w2 w3 w4, r = [w1, w2, w3, w4] := by
            match r, hc with
            | [w1, w2, w3, w4], _ => exact ⟨w1, w2, w3, w4, rfl⟩
            | [], hc => cases hc
            | [_], hc => cases hc
            | [_, _], hc => cases hc
            | [_, _, _], hc => cases hc
            | _ :: _ :: _ :: _ :: _ :: _, hc => cases hc
          obtain ⟨w1, w2, w3, w4, rfl⟩ := hr
          dsimp only [ckA] at hc
          obtain ⟨hc, c4⟩ := and3 hc
          obtain ⟨hc, c3⟩ := and3 hc
          obtain ⟨c1, c2⟩ := and3 hc
          split at hv
          · split at hv
            next e2 => exact wp_mabsL hd (inG_ok c1) (inG_ok c2) (inG_ok c3) (inG_ok c4) (Nat.le_of_ble_eq_true e2) (kn _ _ _ hv)
            next => exact hv.elim
          · exact hv.elim
        next r =>
          have hr : ∃ w1 w2 w3 w4, r = [w1, w2, w3, w4] := by
            match r, hc with
            | [w1, w2, w3, w4], _ => exact ⟨w1, w2, w3, w4, rfl⟩
            | [], hc => cases hc
            | [_], hc => cases hc
            | [_, _], hc => cases hc
            | [_, _, _], hc => cases hc
            | _ :: _ :: _ :: _ :: _ :: _, hc => cases hc
          obtain ⟨w1, w2, w3, w4, rfl⟩ := hr
          dsimp only [ckA] at hc
          obtain ⟨hc, c4⟩ := and3 hc
          obtain ⟨hc, c3⟩ := and3 hc
          obtain ⟨c1, c2⟩ := and3 hc
          split at hv
          · split at hv
            next e1 e2 =>
              split at hv
              next e3 =>
                obtain ⟨a1, a2, a3, a4, a5, a6⟩ := hv
                exact wp_acopy hok hd (inG_ok c1) (inG_ok c2) (inG_ok c3) (inG_ok c4) e1 rfl e2 rfl a1 a2 a3 a4 a5 (Nat.le_of_ble_eq_true e3) (kn _ _ _ a6)
              next => exact hv.elim
            next => exact hv.elim
          · exact hv.elim
        next => exact hv.elim
    · -- invokevirtual
      split at hv
      · exact hv.elim
      next k' =>
        split at hv
        next ci n rf r =>
          split at hv
          next kd i As rest e1 =>
            split at hv
            next e2 =>
              obtain ⟨P', hC, hk⟩ := hv
              obtain ⟨q1, q2⟩ := and3 e2
              have e : kd = ci := by simpa using q1
              subst e
              obtain ⟨-, p2, p3⟩ := popn_ok _ _ _ _ _ e1
              have hr : ∃ w1 w2 w5 w3 w4, r = [w1, w2, w5, w3, w4] := by
                match r, hc with
                | [w1, w2, w5, w3, w4], _ => exact ⟨w1, w2, w5, w3, w4, rfl⟩
                | [], hc => cases hc
                | [_], hc => cases hc
                | [_, _], hc => cases hc
                | [_, _, _], hc => cases hc
                | [_, _, _, _], hc => cases hc
                | _ :: _ :: _ :: _ :: _ :: _ :: _, hc => cases hc
              obtain ⟨w1, w2, w5, w3, w4, rfl⟩ := hr
              dsimp only [ckA] at hc
              obtain ⟨hc, c7⟩ := and3 hc
              obtain ⟨hc, c6⟩ := and3 hc
              obtain ⟨hc, c4⟩ := and3 hc
              obtain ⟨hc, c3⟩ := and3 hc
              obtain ⟨hc, c5⟩ := and3 hc
              obtain ⟨c1, c2⟩ := and3 hc
              obtain ⟨y1, y2, y3⟩ := yOK_ok c6
              have hst : st = As.reverse ++ vR kd i :: rest := by
                have : (vR kd i :: As).reverse ++ rest = st := p2
                rw [← this, List.reverse_cons, List.append_assoc]
                rfl
              have hn : As.length = n := by
                have : As.length + 1 = 0 + (n + 1) := p3
                omega
              have K' : ∀ v h', P' v h' → WP al M (k' + 1) P (pc + 3) lv (retL Mc.2.2.2 v rest) h' := fun v h' hp => rfK (X := fun q => WP al M (k' + 1) P (pc + 3) lv q h') (Y := fun q => K nx lv q h') (hk v h' hp) y3 (fun _ z => kn _ _ _ z)
              rw [hst]
              split at c7
              · exact wp_callStr hok hd hn (of_decide_eq_true c7) (inG_ok c1) (inG_ok c2) (inG_ok c5) (inG_ok c3) (inG_ok c4) y1 y2 (Nat.le_of_ble_eq_true q2) hC K'
              · split at c7
                next f1 f2 => exact wp_callV hd hn f1 (of_decide_eq_true c7) f2 (inG_ok c1) (inG_ok c2) (inG_ok c5) (inG_ok c3) (inG_ok c4) y1 y2 (Nat.le_of_ble_eq_true q2) hC K'
                next => cases c7
            next => exact hv.elim
          next => exact hv.elim
        next => exact hv.elim
    · exact hv.elim
theorem jmp_at : ∀ (tab : List Op) (t : Nat) (o : Op) (r : List Op), jmp tab t = o :: r → o.1 = t ∧ ∃ pre, tab = pre ++ o :: r
  | [], t, o, r, h => by cases h
  | o2 :: r2, t, o, r, h => by
    unfold jmp at h
    split at h
    next e => cases h; exact ⟨by simpa using e, [], rfl⟩
    next =>
      obtain ⟨h1, pre, h2⟩ := jmp_at r2 t o r h
      exact ⟨h1, o2 :: pre, by rw [h2]; rfl⟩
theorem seq_suf : ∀ (pre cur : List Op), seqOK (pre ++ cur) = true → seqOK cur = true
  | [], cur, h => h
  | [o], cur, h => by
    cases cur with
    | nil => rfl
    | cons o2 r => exact (and3 h).2
  | o :: o2 :: pre, cur, h => seq_suf (o2 :: pre) cur (and3 h).2
/-- known locals may be forgotten -/
theorem wp_msk {al : List Ad} {M : MT} {k : Nat} {P : AV → Hp → Prop} {pc : Nat} {lv : List (Option AV)} {st : List AV} {h : Hp} (m : List Bool) (hw : WP al M k P pc (msk m lv) st h) : WP al M k P pc lv st h := by
  have key : ∀ (m : List Bool) (lv : List (Option AV)) (i : Nat) (v : AV), (msk m lv)[i]? = some (some v) → lv[i]? = some (some v) := by
    intro m lv
    induction lv generalizing m with
    | nil => intro i v h; simp [msk] at h
    | cons w vs ih =>
      intro i v h
      match m, i, h with
      | [], 0, h => simp [msk] at h
      | [], i + 1, h => exact ih [] i v (by simpa [msk] using h)
      | true :: bs, 0, h => simpa [msk] using h
      | true :: bs, i + 1, h => exact ih bs i v (by simpa [msk] using h)
      | false :: bs, 0, h => simp [msk] at h
      | false :: bs, i + 1, h => exact ih bs i v (by simpa [msk] using h)
  intro p l e s m' args below meth c D cA tr B H locs ls hP hS hwf hl hs
  exact hw p l e s m' args below meth c D cA tr B H locs ls hP hS hwf ⟨hl.1, hl.2.1, fun i v hv => hl.2.2 i v (key m lv i v hv)⟩ hs
theorem stp_ok {al : List Ad} {M : MT} {k : Nat} {P : AV → Hp → Prop} {tab nx : List Op} {rk : Nat} {K : List Op → List (Option AV) → List AV → Hp → Prop} {o : Op} {lv : List (Option AV)} {st : List AV} {h : Hp} (hok : Okal al) (ho : okOp M o = true) (hrk : rkOK rk M.2.2.2 = true) (kn : ∀ lv st h, K nx lv st h → WP al M k P (o.1 + o.2.2.1) lv st h) (kj : ∀ t lv st h, K (jmp tab t) lv st h → WP al M k P t lv st h) (hv : stp al tab k M.2.2.1 P rk K o nx lv st h) : WP al M k P o.1 lv st h := by
  obtain ⟨pc, ins, len, aux, Mc⟩ := o
  unfold okOp at ho
  obtain ⟨ho, hc⟩ := and3 ho
  obtain ⟨hd0, hlen⟩ := and3 ho
  have hd : decode M.2.1 pc = .ok (ins, len) := by
    dsimp only at hd0
    split at hd0
    next q e => rw [e, of_decide_eq_true hd0]
    next => cases hd0
  have hl : isSw ins = false → len = lnf ins := fun e => by
    rw [show isSw _ = false from e, Bool.false_or] at hlen
    simpa using hlen
  unfold stp at hv
  dsimp only at hv hc kn hlen ⊢
  split at hv
  next v e =>
    have e2 : isSw ins = false := by
      cases ins <;> first | rfl | (simp [ldv] at e; done)
    have := hl e2
    subst this
    exact ldv_ok hd e (kn _ _ _ hv)
  next =>
    split at hv
    next st' e =>
      have e2 : isSw ins = false := by
        cases ins <;> first | rfl | (simp [pur] at e; done)
      have := hl e2
      subst this
      exact pur_ok hd hc e (kn _ _ _ hv)
    next =>
      split at hv
      next lv' st' e =>
        have e2 : isSw ins = false := by
          cases ins <;> first | rfl | (simp [sto] at e; done)
        have := hl e2
        subst this
        exact sto_ok hd e (kn _ _ _ hv)
      next =>
        split at hv
        next c st' e =>
          have e2 : isSw ins = false := by
            cases ins <;> first | rfl | (simp [bra] at e; done)
          have := hl e2
          subst this
          exact bra_ok hd hc e (fun q => kj _ _ _ _ (hv.1 q)) (fun q => kn _ _ _ (hv.2 q))
        next => exact rst_ok hok hd hlen hc hrk kn kj hv
theorem vc_ok {al : List Ad} {M : MT} {k : Nat} {P : AV → Hp → Prop} {tab : List Op} {rk : Nat} {stops : List (Nat × List Bool)} (hok : Okal al) (ht : tabOK M rk tab = true) : ∀ (n : Nat) (b : Bool) (pre : List Op) (o : Op) (r : List Op) (lv : List (Option AV)) (st : List AV) (h : Hp), tab = pre ++ o :: r → vc al tab stops k M.2.2.1 P rk (fun pc lv st h => WP al M k P pc lv st h) n b (o :: r) lv st h → WP al M k P o.1 lv st h := by
  have ht' := ht
  unfold tabOK at ht
  obtain ⟨ht, hrk⟩ := and3 ht
  obtain ⟨ht, hpl⟩ := and3 ht
  obtain ⟨hall, hseq⟩ := and3 ht
  intro n
  induction n with
  | zero => intro b pre o r lv st h e hv; exact hv.elim
  | succ n ih =>
    intro b pre o r lv st h e hv
    have ho : okOp M o = true := List.all_eq_true.mp hall o (by rw [e]; exact List.mem_append_right _ List.mem_cons_self)
    have hsq : seqOK (o :: r) = true := seq_suf pre (o :: r) (by rw [← e]; exact hseq)
    have kn : ∀ lv st h, vc al tab stops k M.2.2.1 P rk (fun pc lv st h => WP al M k P pc lv st h) n true r lv st h → WP al M k P (o.1 + o.2.2.1) lv st h := by
      intro lv st h hv
      cases r with
      | nil => cases n <;> exact hv.elim
      | cons o2 r2 =>
        have e2 : o2.1 = o.1 + o.2.2.1 := by simpa using (and3 hsq).1
        rw [← e2]
        exact ih true (pre ++ [o]) o2 r2 lv st h (by rw [e, List.append_assoc]; rfl) hv
    have kj : ∀ t lv st h, vc al tab stops k M.2.2.1 P rk (fun pc lv st h => WP al M k P pc lv st h) n true (jmp tab t) lv st h → WP al M k P t lv st h := by
      intro t lv st h hv
      cases hj : jmp tab t with
      | nil => rw [hj] at hv; cases n <;> exact hv.elim
      | cons o2 r2 =>
        obtain ⟨e2, pre2, e3⟩ := jmp_at tab t o2 r2 hj
        rw [hj] at hv
        rw [← e2]
        exact ih true pre2 o2 r2 lv st h e3 hv
    cases b with
    | false => exact stp_ok hok ho hrk kn kj hv
    | true =>
      have hv' : (match stopAt stops o.1 with
        | some m => WP al M k P o.1 (msk m lv) st h
        | none => stp al tab k M.2.2.1 P rk (vc al tab stops k M.2.2.1 P rk (fun pc lv st h => WP al M k P pc lv st h) n true) o r lv st h) := hv
      split at hv'
      next m _ => exact wp_msk m hv'
      next => exact stp_ok hok ho hrk kn kj hv'
/-- a walk from place t on -/
theorem wp_at {al : List Ad} {M : MT} {k : Nat} {P : AV → Hp → Prop} {rk : Nat} {lv : List (Option AV)} {st : List AV} {h : Hp} (tab : List Op) (stops : List (Nat × List Bool)) (n t : Nat) (hok : Okal al) (ht : tabOK M rk tab = true) (hv : vc al tab stops k M.2.2.1 P rk (fun pc lv st h => WP al M k P pc lv st h) n false (jmp tab t) lv st h) : WP al M k P t lv st h := by
  cases hj : jmp tab t with
  | nil => rw [hj] at hv; cases n <;> exact hv.elim
  | cons o2 r2 =>
    obtain ⟨e2, pre2, e3⟩ := jmp_at tab t o2 r2 hj
    rw [hj] at hv
    rw [← e2]
    exact vc_ok hok ht n false pre2 o2 r2 lv st h e3 hv
theorem tab_pl {M : MT} {rk : Nat} {tab : List Op} (ht : tabOK M rk tab = true) : plainName M.1.cls = true := by
  unfold tabOK at ht
  exact (and3 (and3 ht).1).2
/-- a method's contract by a walk from its entry -/
theorem ct_vc {al : List Ad} {M : MT} {k : Nat} {P : AV → Hp → Prop} {rk : Nat} {As : List AV} {h : Hp} (tab : List Op) (stops : List (Nat × List Bool)) (n : Nat) (hok : Okal al) (ht : tabOK M rk tab = true) (hn : Nat.ble (lvin As).length M.2.2.1 = true) (hv : vc al tab stops k M.2.2.1 P rk (fun pc lv st h => WP al M k P pc lv st h) n false (jmp tab 0) (lve M.2.2.1 As) [] h) : Ct al M k As h P :=
  ct_wp (tab_pl ht) (Nat.le_of_ble_eq_true hn) (wp_at tab stops n 0 hok ht hv)
end SOUND2
