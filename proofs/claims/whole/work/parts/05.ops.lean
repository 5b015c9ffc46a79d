section OPS
variable {al : List Ad} {M : MT} {k : Nat} {P : AV → Hp → Prop} {pc : Nat} {lv : List (Option AV)} {st : List AV} {h : Hp}
theorem wp_iconst {n : Int} (hd : decode M.2.1 pc = .ok (.iconst n, 1)) (kk : WP al M k P (pc + 1) lv (vI (Int32.ofInt n) :: st) h) : WP al M k P pc lv (st) h := by
  intro p l e s m args below meth c D cA tr B H locs ls hP hS hw hl hs
  exact lv_iconst B.1 B.2.1 hd rfl (kk p l e s m args below meth c D cA tr B H locs ls hP hS hw hl (sc wfI hs))
theorem wp_bipush {n : Int} (hd : decode M.2.1 pc = .ok (.bipush n, 2)) (kk : WP al M k P (pc + 2) lv (vI ((Int8.ofInt n).toInt32) :: st) h) : WP al M k P pc lv (st) h := by
  intro p l e s m args below meth c D cA tr B H locs ls hP hS hw hl hs
  exact lv_bipush B.1 B.2.1 hd rfl (kk p l e s m args below meth c D cA tr B H locs ls hP hS hw hl (sc wfI hs))
theorem wp_sipush {n : Int} (hd : decode M.2.1 pc = .ok (.sipush n, 3)) (kk : WP al M k P (pc + 3) lv (vI ((Int16.ofInt n).toInt32) :: st) h) : WP al M k P pc lv (st) h := by
  intro p l e s m args below meth c D cA tr B H locs ls hP hS hw hl hs
  exact lv_sipush B.1 B.2.1 hd rfl (kk p l e s m args below meth c D cA tr B H locs ls hP hS hw hl (sc wfI hs))
theorem wp_lconst {n : Fin 2} (hd : decode M.2.1 pc = .ok (.lconst n, 1)) (kk : WP al M k P (pc + 1) lv (vL (Int64.ofNat (n : Nat)) :: st) h) : WP al M k P pc lv (st) h := by
  intro p l e s m args below meth c D cA tr B H locs ls hP hS hw hl hs
  exact lv_lconst B.1 B.2.1 hd rfl (kk p l e s m args below meth c D cA tr B H locs ls hP hS hw hl (sc wfL hs))
theorem wp_iadd {x y : Int32} (hd : decode M.2.1 pc = .ok (.iadd, 1)) (kk : WP al M k P (pc + 1) lv (vI (x + y) :: st) h) : WP al M k P pc lv (vI y :: vI x :: st) h := by
  intro p l e s m args below meth c D cA tr B H locs ls hP hS hw hl hs
  exact lv_iadd B.1 B.2.1 hd (kk p l e s m args below meth c D cA tr B H locs ls hP hS hw hl (sc wfI (st1 (st1 hs))))
theorem wp_isub {x y : Int32} (hd : decode M.2.1 pc = .ok (.isub, 1)) (kk : WP al M k P (pc + 1) lv (vI (x - y) :: st) h) : WP al M k P pc lv (vI y :: vI x :: st) h := by
  intro p l e s m args below meth c D cA tr B H locs ls hP hS hw hl hs
  exact lv_isub B.1 B.2.1 hd (kk p l e s m args below meth c D cA tr B H locs ls hP hS hw hl (sc wfI (st1 (st1 hs))))
theorem wp_imul {x y : Int32} (hd : decode M.2.1 pc = .ok (.imul, 1)) (kk : WP al M k P (pc + 1) lv (vI (x * y) :: st) h) : WP al M k P pc lv (vI y :: vI x :: st) h := by
  intro p l e s m args below meth c D cA tr B H locs ls hP hS hw hl hs
  exact lv_imul B.1 B.2.1 hd (kk p l e s m args below meth c D cA tr B H locs ls hP hS hw hl (sc wfI (st1 (st1 hs))))
theorem wp_iand {x y : Int32} (hd : decode M.2.1 pc = .ok (.iand, 1)) (kk : WP al M k P (pc + 1) lv (vI (x &&& y) :: st) h) : WP al M k P pc lv (vI y :: vI x :: st) h := by
  intro p l e s m args below meth c D cA tr B H locs ls hP hS hw hl hs
  exact lv_iand B.1 B.2.1 hd (kk p l e s m args below meth c D cA tr B H locs ls hP hS hw hl (sc wfI (st1 (st1 hs))))
theorem wp_ior {x y : Int32} (hd : decode M.2.1 pc = .ok (.ior, 1)) (kk : WP al M k P (pc + 1) lv (vI (x ||| y) :: st) h) : WP al M k P pc lv (vI y :: vI x :: st) h := by
  intro p l e s m args below meth c D cA tr B H locs ls hP hS hw hl hs
  exact lv_ior B.1 B.2.1 hd (kk p l e s m args below meth c D cA tr B H locs ls hP hS hw hl (sc wfI (st1 (st1 hs))))
theorem wp_ixor {x y : Int32} (hd : decode M.2.1 pc = .ok (.ixor, 1)) (kk : WP al M k P (pc + 1) lv (vI (x ^^^ y) :: st) h) : WP al M k P pc lv (vI y :: vI x :: st) h := by
  intro p l e s m args below meth c D cA tr B H locs ls hP hS hw hl hs
  exact lv_ixor B.1 B.2.1 hd (kk p l e s m args below meth c D cA tr B H locs ls hP hS hw hl (sc wfI (st1 (st1 hs))))
theorem wp_ishl {x y : Int32} (hd : decode M.2.1 pc = .ok (.ishl, 1)) (kk : WP al M k P (pc + 1) lv (vI (x <<< (y &&& 31)) :: st) h) : WP al M k P pc lv (vI y :: vI x :: st) h := by
  intro p l e s m args below meth c D cA tr B H locs ls hP hS hw hl hs
  exact lv_ishl B.1 B.2.1 hd (kk p l e s m args below meth c D cA tr B H locs ls hP hS hw hl (sc wfI (st1 (st1 hs))))
theorem wp_ishr {x y : Int32} (hd : decode M.2.1 pc = .ok (.ishr, 1)) (kk : WP al M k P (pc + 1) lv (vI (x >>> (y &&& 31)) :: st) h) : WP al M k P pc lv (vI y :: vI x :: st) h := by
  intro p l e s m args below meth c D cA tr B H locs ls hP hS hw hl hs
  exact lv_ishr B.1 B.2.1 hd (kk p l e s m args below meth c D cA tr B H locs ls hP hS hw hl (sc wfI (st1 (st1 hs))))
theorem wp_iushr {x y : Int32} (hd : decode M.2.1 pc = .ok (.iushr, 1)) (kk : WP al M k P (pc + 1) lv (vI ((x.toUInt32 >>> (y.toUInt32 &&& Int32.toUInt32 31)).toInt32) :: st) h) : WP al M k P pc lv (vI y :: vI x :: st) h := by
  intro p l e s m args below meth c D cA tr B H locs ls hP hS hw hl hs
  exact lv_iushr B.1 B.2.1 hd rfl (kk p l e s m args below meth c D cA tr B H locs ls hP hS hw hl (sc wfI (st1 (st1 hs))))
theorem wp_ineg {x : Int32} (hd : decode M.2.1 pc = .ok (.ineg, 1)) (kk : WP al M k P (pc + 1) lv (vI (-x) :: st) h) : WP al M k P pc lv (vI x :: st) h := by
  intro p l e s m args below meth c D cA tr B H locs ls hP hS hw hl hs
  exact lv_ineg B.1 B.2.1 hd (kk p l e s m args below meth c D cA tr B H locs ls hP hS hw hl (sc wfI (st1 hs)))
theorem wp_idiv {x y : Int32} (hd : decode M.2.1 pc = .ok (.idiv, 1)) (hne : ¬ y = 0) (kk : WP al M k P (pc + 1) lv (vI (x / y) :: st) h) : WP al M k P pc lv (vI y :: vI x :: st) h := by
  intro p l e s m args below meth c D cA tr B H locs ls hP hS hw hl hs
  exact lv_idiv B.1 B.2.1 hd hne (kk p l e s m args below meth c D cA tr B H locs ls hP hS hw hl (sc wfI (st1 (st1 hs))))
theorem wp_irem {x y : Int32} (hd : decode M.2.1 pc = .ok (.irem, 1)) (hne : ¬ y = 0) (kk : WP al M k P (pc + 1) lv (vI (x - x / y * y) :: st) h) : WP al M k P pc lv (vI y :: vI x :: st) h := by
  intro p l e s m args below meth c D cA tr B H locs ls hP hS hw hl hs
  exact lv_irem B.1 B.2.1 hd hne (kk p l e s m args below meth c D cA tr B H locs ls hP hS hw hl (sc wfI (st1 (st1 hs))))
theorem wp_ladd {x y : Int64} (hd : decode M.2.1 pc = .ok (.ladd, 1)) (kk : WP al M k P (pc + 1) lv (vL (x + y) :: st) h) : WP al M k P pc lv (vL y :: vL x :: st) h := by
  intro p l e s m args below meth c D cA tr B H locs ls hP hS hw hl hs
  exact lv_ladd B.1 B.2.1 hd (kk p l e s m args below meth c D cA tr B H locs ls hP hS hw hl (sc wfL (st1 (st1 hs))))
theorem wp_lsub {x y : Int64} (hd : decode M.2.1 pc = .ok (.lsub, 1)) (kk : WP al M k P (pc + 1) lv (vL (x - y) :: st) h) : WP al M k P pc lv (vL y :: vL x :: st) h := by
  intro p l e s m args below meth c D cA tr B H locs ls hP hS hw hl hs
  exact lv_lsub B.1 B.2.1 hd (kk p l e s m args below meth c D cA tr B H locs ls hP hS hw hl (sc wfL (st1 (st1 hs))))
theorem wp_lmul {x y : Int64} (hd : decode M.2.1 pc = .ok (.lmul, 1)) (kk : WP al M k P (pc + 1) lv (vL (x * y) :: st) h) : WP al M k P pc lv (vL y :: vL x :: st) h := by
  intro p l e s m args below meth c D cA tr B H locs ls hP hS hw hl hs
  exact lv_lmul B.1 B.2.1 hd (kk p l e s m args below meth c D cA tr B H locs ls hP hS hw hl (sc wfL (st1 (st1 hs))))
theorem wp_ldiv {x y : Int64} (hd : decode M.2.1 pc = .ok (.ldiv, 1)) (hne : ¬ y = 0) (kk : WP al M k P (pc + 1) lv (vL (x / y) :: st) h) : WP al M k P pc lv (vL y :: vL x :: st) h := by
  intro p l e s m args below meth c D cA tr B H locs ls hP hS hw hl hs
  exact lv_ldiv B.1 B.2.1 hd hne (kk p l e s m args below meth c D cA tr B H locs ls hP hS hw hl (sc wfL (st1 (st1 hs))))
theorem wp_lrem {x y : Int64} (hd : decode M.2.1 pc = .ok (.lrem, 1)) (hne : ¬ y = 0) (kk : WP al M k P (pc + 1) lv (vL (x - x / y * y) :: st) h) : WP al M k P pc lv (vL y :: vL x :: st) h := by
  intro p l e s m args below meth c D cA tr B H locs ls hP hS hw hl hs
  exact lv_lrem B.1 B.2.1 hd hne (kk p l e s m args below meth c D cA tr B H locs ls hP hS hw hl (sc wfL (st1 (st1 hs))))
theorem wp_lcmp {x y : Int64} (hd : decode M.2.1 pc = .ok (.lcmp, 1)) (kk : WP al M k P (pc + 1) lv (vI (lg_cmp x y) :: st) h) : WP al M k P pc lv (vL y :: vL x :: st) h := by
  intro p l e s m args below meth c D cA tr B H locs ls hP hS hw hl hs
  exact W.lcmp B.1 B.2.1 hd (kk p l e s m args below meth c D cA tr B H locs ls hP hS hw hl (sc wfI (st1 (st1 hs))))
theorem wp_i2l {x : Int32} (hd : decode M.2.1 pc = .ok (.i2l, 1)) (kk : WP al M k P (pc + 1) lv (vL (x.toInt64) :: st) h) : WP al M k P pc lv (vI x :: st) h := by
  intro p l e s m args below meth c D cA tr B H locs ls hP hS hw hl hs
  exact lv_i2l B.1 B.2.1 hd rfl (kk p l e s m args below meth c D cA tr B H locs ls hP hS hw hl (sc wfL (st1 hs)))
theorem wp_l2i {x : Int64} (hd : decode M.2.1 pc = .ok (.l2i, 1)) (kk : WP al M k P (pc + 1) lv (vI (x.toInt32) :: st) h) : WP al M k P pc lv (vL x :: st) h := by
  intro p l e s m args below meth c D cA tr B H locs ls hP hS hw hl hs
  exact lv_l2i B.1 B.2.1 hd rfl (kk p l e s m args below meth c D cA tr B H locs ls hP hS hw hl (sc wfI (st1 hs)))
theorem wp_i2b {x : Int32} (hd : decode M.2.1 pc = .ok (.i2b, 1)) (kk : WP al M k P (pc + 1) lv (vI (x.toInt8.toInt32) :: st) h) : WP al M k P pc lv (vI x :: st) h := by
  intro p l e s m args below meth c D cA tr B H locs ls hP hS hw hl hs
  exact lv_i2b B.1 B.2.1 hd rfl (kk p l e s m args below meth c D cA tr B H locs ls hP hS hw hl (sc wfI (st1 hs)))
theorem wp_i2s {x : Int32} (hd : decode M.2.1 pc = .ok (.i2s, 1)) (kk : WP al M k P (pc + 1) lv (vI (x.toInt16.toInt32) :: st) h) : WP al M k P pc lv (vI x :: st) h := by
  intro p l e s m args below meth c D cA tr B H locs ls hP hS hw hl hs
  exact lv_i2s B.1 B.2.1 hd rfl (kk p l e s m args below meth c D cA tr B H locs ls hP hS hw hl (sc wfI (st1 hs)))
def cat1 : AV → Bool
  | .inr (.inl _) => false
  | _ => true
theorem cat1_ok {tr : Ad → Nat} : ∀ {v : AV}, cat1 v = true → (trV tr v).category = 1
  | .inl _, _ => rfl
  | .inr (.inr _), _ => rfl
  | .inr (.inl _), h => by cases h
theorem cat2_ok {tr : Ad → Nat} {x : Int64} : (trV tr (vL x)).category = 2 := rfl
theorem wp_dup {v : AV} (hd : decode M.2.1 pc = .ok (.dup, 1)) (hc : cat1 v = true) (kk : WP al M k P (pc + 1) lv (v :: v :: st) h) : WP al M k P pc lv (v :: st) h := by
  intro p l e s m args below meth c D cA tr B H locs ls hP hS hw hl hs
  exact lv_dup B.1 B.2.1 hd (cat1_ok hc) (kk p l e s m args below meth c D cA tr B H locs ls hP hS hw hl (sc (st0 hs) hs))
theorem wp_pop {v : AV} (hd : decode M.2.1 pc = .ok (.pop, 1)) (hc : cat1 v = true) (kk : WP al M k P (pc + 1) lv (st) h) : WP al M k P pc lv (v :: st) h := by
  intro p l e s m args below meth c D cA tr B H locs ls hP hS hw hl hs
  exact lv_pop B.1 B.2.1 hd (cat1_ok hc) (kk p l e s m args below meth c D cA tr B H locs ls hP hS hw hl (st1 hs))
theorem wp_dup_x1 {v w : AV} (hd : decode M.2.1 pc = .ok (.dup_x1, 1)) (hc : cat1 v = true) (hc2 : cat1 w = true) (kk : WP al M k P (pc + 1) lv (v :: w :: v :: st) h) : WP al M k P pc lv (v :: w :: st) h := by
  intro p l e s m args below meth c D cA tr B H locs ls hP hS hw hl hs
  exact lv_dup_x1 B.1 B.2.1 hd (cat1_ok hc) (cat1_ok hc2) (kk p l e s m args below meth c D cA tr B H locs ls hP hS hw hl (sc (st0 hs) (sc (st0 (st1 hs)) (sc (st0 hs) (st2 hs)))))
theorem wp_dup2 {v w : AV} (hd : decode M.2.1 pc = .ok (.dup2, 1)) (hc : cat1 v = true) (hc2 : cat1 w = true) (kk : WP al M k P (pc + 1) lv (v :: w :: v :: w :: st) h) : WP al M k P pc lv (v :: w :: st) h := by
  intro p l e s m args below meth c D cA tr B H locs ls hP hS hw hl hs
  exact lv_dup2_11 B.1 B.2.1 hd (cat1_ok hc) (cat1_ok hc2) (kk p l e s m args below meth c D cA tr B H locs ls hP hS hw hl (sc (st0 hs) (sc (st0 (st1 hs)) hs)))
theorem wp_dup2_2 {x : Int64} (hd : decode M.2.1 pc = .ok (.dup2, 1)) (kk : WP al M k P (pc + 1) lv (vL x :: vL x :: st) h) : WP al M k P pc lv (vL x :: st) h := by
  intro p l e s m args below meth c D cA tr B H locs ls hP hS hw hl hs
  exact lv_dup2_2 B.1 B.2.1 hd cat2_ok (kk p l e s m args below meth c D cA tr B H locs ls hP hS hw hl (sc wfL hs))
theorem wp_iload {i : Nat} {x : Int32} (hd : decode M.2.1 pc = .ok (.iload i, 2)) (hx : lv[i]? = some (some (vI x))) (kk : WP al M k P (pc + 2) lv (vI x :: st) h) : WP al M k P pc lv st h := by
  intro p l e s m args below meth c D cA tr B H locs ls hP hS hw hl hs
  exact lv_iload B.1 B.2.1 hd (hl.2.2 i _ hx).1 (kk p l e s m args below meth c D cA tr B H locs ls hP hS hw hl (sc wfI hs))
theorem wp_iload_n {i : Fin 4} {x : Int32} (hd : decode M.2.1 pc = .ok (.iload_n i, 1)) (hx : lv[(i : Nat)]? = some (some (vI x))) (kk : WP al M k P (pc + 1) lv (vI x :: st) h) : WP al M k P pc lv st h := by
  intro p l e s m args below meth c D cA tr B H locs ls hP hS hw hl hs
  exact lv_iload_n B.1 B.2.1 hd rfl (hl.2.2 _ _ hx).1 (kk p l e s m args below meth c D cA tr B H locs ls hP hS hw hl (sc wfI hs))
theorem wp_lload {i : Nat} {x : Int64} (hd : decode M.2.1 pc = .ok (.lload i, 2)) (hx : lv[i]? = some (some (vL x))) (kk : WP al M k P (pc + 2) lv (vL x :: st) h) : WP al M k P pc lv st h := by
  intro p l e s m args below meth c D cA tr B H locs ls hP hS hw hl hs
  exact lv_lload B.1 B.2.1 hd (hl.2.2 i _ hx).1 (kk p l e s m args below meth c D cA tr B H locs ls hP hS hw hl (sc wfL hs))
theorem wp_lload_n {i : Fin 4} {x : Int64} (hd : decode M.2.1 pc = .ok (.lload_n i, 1)) (hx : lv[(i : Nat)]? = some (some (vL x))) (kk : WP al M k P (pc + 1) lv (vL x :: st) h) : WP al M k P pc lv st h := by
  intro p l e s m args below meth c D cA tr B H locs ls hP hS hw hl hs
  exact lv_lload_n B.1 B.2.1 hd rfl (hl.2.2 _ _ hx).1 (kk p l e s m args below meth c D cA tr B H locs ls hP hS hw hl (sc wfL hs))
theorem wp_aload {i : Nat} {a : Ad} (hd : decode M.2.1 pc = .ok (.aload i, 2)) (hx : lv[i]? = some (some (.inr (.inr a)))) (kk : WP al M k P (pc + 2) lv (.inr (.inr a) :: st) h) : WP al M k P pc lv st h := by
  intro p l e s m args below meth c D cA tr B H locs ls hP hS hw hl hs
  exact lv_aload B.1 B.2.1 hd (hl.2.2 i _ hx).1 (kk p l e s m args below meth c D cA tr B H locs ls hP hS hw hl (sc (hl.2.2 i _ hx).2 hs))
theorem wp_aload_n {i : Fin 4} {a : Ad} (hd : decode M.2.1 pc = .ok (.aload_n i, 1)) (hx : lv[(i : Nat)]? = some (some (.inr (.inr a)))) (kk : WP al M k P (pc + 1) lv (.inr (.inr a) :: st) h) : WP al M k P pc lv st h := by
  intro p l e s m args below meth c D cA tr B H locs ls hP hS hw hl hs
  exact lv_aload_n B.1 B.2.1 hd rfl (hl.2.2 _ _ hx).1 (kk p l e s m args below meth c D cA tr B H locs ls hP hS hw hl (sc (hl.2.2 _ _ hx).2 hs))
/-- a long ahead of place i is gone when i is written -/
def clr (lv : List (Option AV)) : Nat → List (Option AV)
  | 0 => lv
  | i + 1 => match lv[i]? with
    | some (some (.inr (.inl _))) => lv.set i none
    | _ => lv
def stl (lv : List (Option AV)) (i : Nat) (v : AV) : List (Option AV) := (clr lv i).set i (some v)
def stl2 (lv : List (Option AV)) (i : Nat) (v : AV) : List (Option AV) := ((clr lv i).set (i + 1) none).set i (some v)
theorem clr_at {lv : List (Option AV)} {i j : Nat} {v : AV} (hv : (clr lv i)[j]? = some (some v)) : lv[j]? = some (some v) ∧ ¬ (j + 1 = i ∧ cat1 v = false) := by
  cases i with
  | zero => exact ⟨hv, fun q => by omega⟩
  | succ i =>
    simp only [clr] at hv
    split at hv
    next w hw =>
      by_cases e : j = i
      · subst e
        rw [List.getElem?_set_self (List.getElem?_eq_some_iff.mp hw).1] at hv
        cases hv
      · rw [List.getElem?_set_ne (Ne.symm e)] at hv
        exact ⟨hv, fun q => by omega⟩
    next hw =>
      refine ⟨hv, fun q => ?_⟩
      obtain ⟨q1, q2⟩ := q
      have : j = i := by omega
      subst this
      match v, q2 with
      | .inr (.inl x), _ => exact hw x hv
      | .inl x, q2 => cases q2
      | .inr (.inr x), q2 => cases q2
theorem cat_of {tr : Ad → Nat} : ∀ (v : AV), ((trV tr v).category == 2) = true → cat1 v = false
  | .inl _, h => by cases h
  | .inr (.inr _), h => by cases h
  | .inr (.inl _), _ => rfl
def asl (tr : Ad → Nat) (lv : List (Option AV)) : List (Nat × Value) := (List.range lv.length).filterMap (fun i => match lv[i]? with
  | some (some v) => some (i, trV tr v)
  | _ => none)
theorem asl_in {tr : Ad → Nat} {lv : List (Option AV)} {i : Nat} {v : AV} (h : lv[i]? = some (some v)) : (i, trV tr v) ∈ asl tr lv :=
  List.mem_filterMap.mpr ⟨i, List.mem_range.mpr (List.getElem?_eq_some_iff.mp h).1, by simp only [h]⟩
theorem asl_has {al : List Ad} {tr : Ad → Nat} {n : Nat} {ls : Array Slot} {lv : List (Option AV)} (h : lvok al tr n ls lv) : lv_has ls n (asl tr lv) := by
  refine ⟨h.1, h.2.1, fun q hq => ?_⟩
  obtain ⟨i, -, hi⟩ := List.mem_filterMap.mp hq
  split at hi
  next v hv => cases hi; exact (h.2.2 i v hv).1
  next => cases hi
theorem lvok_st {al : List Ad} {tr : Ad → Nat} {n : Nat} {ls : Array Slot} {lv : List (Option AV)} {i : Nat} {v : AV} (h : lvok al tr n ls lv) (hv : wfV al v) {ls' : Array Slot} (h' : lv_has ls' n ((i, trV tr v) :: (asl tr lv).filter (fun q => !(q.1 == i) && !(q.1 + 1 == i && q.2.category == 2)))) : lvok al tr n ls' (stl lv i v) := by
  refine ⟨h'.1, h'.2.1, fun j w hw => ?_⟩
  unfold stl at hw
  by_cases e : j = i
  · subst e
    have : j < (clr lv j).length := by
      have := (List.getElem?_eq_some_iff.mp hw).1
      rwa [List.length_set] at this
    rw [List.getElem?_set_self this] at hw
    cases hw
    exact ⟨h'.2.2 _ List.mem_cons_self, hv⟩
  · rw [List.getElem?_set_ne (Ne.symm e)] at hw
    obtain ⟨h1, h2⟩ := clr_at hw
    refine ⟨h'.2.2 (j, trV tr w) (List.mem_cons_of_mem _ (List.mem_filter.mpr ⟨asl_in h1, ?_⟩)), (h.2.2 j w h1).2⟩
    have q1 : (j == i) = false := by simpa using e
    cases q2 : (j + 1 == i && (trV tr w).category == 2) with
    | false => simp [q1, q2]
    | true =>
      exfalso
      rw [Bool.and_eq_true] at q2
      exact h2 ⟨by simpa using q2.1, cat_of w q2.2⟩
theorem lvok_st2 {al : List Ad} {tr : Ad → Nat} {n : Nat} {ls : Array Slot} {lv : List (Option AV)} {i : Nat} {v : AV} (h : lvok al tr n ls lv) (hv : wfV al v) {ls' : Array Slot} (h' : lv_has ls' n ((i, trV tr v) :: (asl tr lv).filter (fun q => !(q.1 == i) && (!(q.1 == i + 1) && !(q.1 + 1 == i && q.2.category == 2))))) : lvok al tr n ls' (stl2 lv i v) := by
  refine ⟨h'.1, h'.2.1, fun j w hw => ?_⟩
  unfold stl2 at hw
  by_cases e : j = i
  · subst e
    have : j < ((clr lv j).set (j + 1) none).length := by
      have := (List.getElem?_eq_some_iff.mp hw).1
      rwa [List.length_set] at this
    rw [List.getElem?_set_self this] at hw
    cases hw
    exact ⟨h'.2.2 _ List.mem_cons_self, hv⟩
  · rw [List.getElem?_set_ne (Ne.symm e)] at hw
    by_cases e1 : j = i + 1
    · subst e1
      have : i + 1 < (clr lv i).length := by
        have := (List.getElem?_eq_some_iff.mp hw).1
        rwa [List.length_set] at this
      rw [List.getElem?_set_self this] at hw
      cases hw
    · rw [List.getElem?_set_ne (Ne.symm e1)] at hw
      obtain ⟨h1, h2⟩ := clr_at hw
      refine ⟨h'.2.2 (j, trV tr w) (List.mem_cons_of_mem _ (List.mem_filter.mpr ⟨asl_in h1, ?_⟩)), (h.2.2 j w h1).2⟩
      have q1 : (j == i) = false := by simpa using e
      have q3 : (j == i + 1) = false := by simpa using e1
      cases q2 : (j + 1 == i && (trV tr w).category == 2) with
      | false => simp [q1, q2, q3]
      | true =>
        exfalso
        rw [Bool.and_eq_true] at q2
        exact h2 ⟨by simpa using q2.1, cat_of w q2.2⟩
theorem wp_istore {i : Nat} {x : Int32} (hd : decode M.2.1 pc = .ok (.istore i, 2)) (hi : i < M.2.2.1) (kk : WP al M k P (pc + 2) (stl lv i (vI x)) st h) : WP al M k P pc lv ((vI x) :: st) h := by
  intro p l e s m args below meth c D cA tr B H locs ls hP hS hw hl hs
  exact lv_istore B.1 B.2.1 hd (asl_has hl) hi rfl (fun ls hl2 => kk p l e s m args below meth c D cA tr B H locs ls hP hS hw (lvok_st hl wfI hl2) (st1 hs))
theorem wp_istore_n {i : Fin 4} {x : Int32} (hd : decode M.2.1 pc = .ok (.istore_n i, 1)) (hi : (i : Nat) < M.2.2.1) (kk : WP al M k P (pc + 1) (stl lv i (vI x)) st h) : WP al M k P pc lv ((vI x) :: st) h := by
  intro p l e s m args below meth c D cA tr B H locs ls hP hS hw hl hs
  exact lv_istore_n B.1 B.2.1 hd rfl (asl_has hl) hi rfl (fun ls hl2 => kk p l e s m args below meth c D cA tr B H locs ls hP hS hw (lvok_st hl wfI hl2) (st1 hs))
theorem wp_lstore {i : Nat} {x : Int64} (hd : decode M.2.1 pc = .ok (.lstore i, 2)) (hi : i + 1 < M.2.2.1) (kk : WP al M k P (pc + 2) (stl2 lv i (vL x)) st h) : WP al M k P pc lv ((vL x) :: st) h := by
  intro p l e s m args below meth c D cA tr B H locs ls hP hS hw hl hs
  exact lv_lstore B.1 B.2.1 hd (asl_has hl) hi rfl (fun ls hl2 => kk p l e s m args below meth c D cA tr B H locs ls hP hS hw (lvok_st2 hl wfL hl2) (st1 hs))
theorem wp_lstore_n {i : Fin 4} {x : Int64} (hd : decode M.2.1 pc = .ok (.lstore_n i, 1)) (hi : (i : Nat) + 1 < M.2.2.1) (kk : WP al M k P (pc + 1) (stl2 lv i (vL x)) st h) : WP al M k P pc lv ((vL x) :: st) h := by
  intro p l e s m args below meth c D cA tr B H locs ls hP hS hw hl hs
  exact lv_lstore_n B.1 B.2.1 hd rfl (asl_has hl) hi rfl (fun ls hl2 => kk p l e s m args below meth c D cA tr B H locs ls hP hS hw (lvok_st2 hl wfL hl2) (st1 hs))
theorem wp_astore {i : Nat} {a : Ad} (hd : decode M.2.1 pc = .ok (.astore i, 2)) (hi : i < M.2.2.1) (kk : WP al M k P (pc + 2) (stl lv i (.inr (.inr a))) st h) : WP al M k P pc lv ((.inr (.inr a)) :: st) h := by
  intro p l e s m args below meth c D cA tr B H locs ls hP hS hw hl hs
  exact lv_astore B.1 B.2.1 hd (asl_has hl) hi rfl (fun ls hl2 => kk p l e s m args below meth c D cA tr B H locs ls hP hS hw (lvok_st hl (st0 hs) hl2) (st1 hs))
theorem wp_astore_n {i : Fin 4} {a : Ad} (hd : decode M.2.1 pc = .ok (.astore_n i, 1)) (hi : (i : Nat) < M.2.2.1) (kk : WP al M k P (pc + 1) (stl lv i (.inr (.inr a))) st h) : WP al M k P pc lv ((.inr (.inr a)) :: st) h := by
  intro p l e s m args below meth c D cA tr B H locs ls hP hS hw hl hs
  exact lv_astore_n B.1 B.2.1 hd rfl (asl_has hl) hi rfl (fun ls hl2 => kk p l e s m args below meth c D cA tr B H locs ls hP hS hw (lvok_st hl (st0 hs) hl2) (st1 hs))
theorem wp_iinc {i : Nat} {n : Int} {x : Int32} (hd : decode M.2.1 pc = .ok (.iinc i n, 3)) (hi : i < M.2.2.1) (hx : lv[i]? = some (some (vI x))) (kk : WP al M k P (pc + 3) (stl lv i (vI (x + Int32.ofInt n))) st h) : WP al M k P pc lv st h := by
  intro p l e s m args below meth c D cA tr B H locs ls hP hS hw hl hs
  obtain ⟨j, hj⟩ := List.getElem?_of_mem (asl_in (tr := tr) hx)
  exact lv_iinc B.1 B.2.1 hd (asl_has hl) hj rfl hi rfl (fun ls hl2 => kk p l e s m args below meth c D cA tr B H locs ls hP hS hw (lvok_st hl wfI hl2) hs)
theorem wp_if_eq {x : Int32} {off : Int} {t : Nat} (hd : decode M.2.1 pc = .ok (.ifCond .eq off, 3)) (ht : (pc : Int) + off = (t : Int)) (k1 : x = 0 → WP al M k P t lv st h) (k2 : ¬ x = 0 → WP al M k P (pc + 3) lv st h) : WP al M k P pc lv (vI x :: st) h := by
  intro p l e s m args below meth c D cA tr B H locs ls hP hS hw hl hs
  exact lv_if_eq B.1 B.2.1 hd ht (fun q => k1 q p l e s m args below meth c D cA tr B H locs ls hP hS hw hl (st1 hs)) (fun q => k2 q p l e s m args below meth c D cA tr B H locs ls hP hS hw hl (st1 hs))
theorem wp_if_ne {x : Int32} {off : Int} {t : Nat} (hd : decode M.2.1 pc = .ok (.ifCond .ne off, 3)) (ht : (pc : Int) + off = (t : Int)) (k1 : ¬ x = 0 → WP al M k P t lv st h) (k2 : x = 0 → WP al M k P (pc + 3) lv st h) : WP al M k P pc lv (vI x :: st) h := by
  intro p l e s m args below meth c D cA tr B H locs ls hP hS hw hl hs
  exact lv_if_ne B.1 B.2.1 hd ht (fun q => k1 q p l e s m args below meth c D cA tr B H locs ls hP hS hw hl (st1 hs)) (fun q => k2 q p l e s m args below meth c D cA tr B H locs ls hP hS hw hl (st1 hs))
theorem wp_if_lt {x : Int32} {off : Int} {t : Nat} (hd : decode M.2.1 pc = .ok (.ifCond .lt off, 3)) (ht : (pc : Int) + off = (t : Int)) (k1 : x < 0 → WP al M k P t lv st h) (k2 : ¬ x < 0 → WP al M k P (pc + 3) lv st h) : WP al M k P pc lv (vI x :: st) h := by
  intro p l e s m args below meth c D cA tr B H locs ls hP hS hw hl hs
  exact lv_if_lt B.1 B.2.1 hd ht (fun q => k1 q p l e s m args below meth c D cA tr B H locs ls hP hS hw hl (st1 hs)) (fun q => k2 q p l e s m args below meth c D cA tr B H locs ls hP hS hw hl (st1 hs))
theorem wp_if_ge {x : Int32} {off : Int} {t : Nat} (hd : decode M.2.1 pc = .ok (.ifCond .ge off, 3)) (ht : (pc : Int) + off = (t : Int)) (k1 : 0 ≤ x → WP al M k P t lv st h) (k2 : ¬ 0 ≤ x → WP al M k P (pc + 3) lv st h) : WP al M k P pc lv (vI x :: st) h := by
  intro p l e s m args below meth c D cA tr B H locs ls hP hS hw hl hs
  exact lv_if_ge B.1 B.2.1 hd ht (fun q => k1 q p l e s m args below meth c D cA tr B H locs ls hP hS hw hl (st1 hs)) (fun q => k2 q p l e s m args below meth c D cA tr B H locs ls hP hS hw hl (st1 hs))
theorem wp_if_gt {x : Int32} {off : Int} {t : Nat} (hd : decode M.2.1 pc = .ok (.ifCond .gt off, 3)) (ht : (pc : Int) + off = (t : Int)) (k1 : 0 < x → WP al M k P t lv st h) (k2 : ¬ 0 < x → WP al M k P (pc + 3) lv st h) : WP al M k P pc lv (vI x :: st) h := by
  intro p l e s m args below meth c D cA tr B H locs ls hP hS hw hl hs
  exact lv_if_gt B.1 B.2.1 hd ht (fun q => k1 q p l e s m args below meth c D cA tr B H locs ls hP hS hw hl (st1 hs)) (fun q => k2 q p l e s m args below meth c D cA tr B H locs ls hP hS hw hl (st1 hs))
theorem wp_if_le {x : Int32} {off : Int} {t : Nat} (hd : decode M.2.1 pc = .ok (.ifCond .le off, 3)) (ht : (pc : Int) + off = (t : Int)) (k1 : x ≤ 0 → WP al M k P t lv st h) (k2 : ¬ x ≤ 0 → WP al M k P (pc + 3) lv st h) : WP al M k P pc lv (vI x :: st) h := by
  intro p l e s m args below meth c D cA tr B H locs ls hP hS hw hl hs
  exact lv_if_le B.1 B.2.1 hd ht (fun q => k1 q p l e s m args below meth c D cA tr B H locs ls hP hS hw hl (st1 hs)) (fun q => k2 q p l e s m args below meth c D cA tr B H locs ls hP hS hw hl (st1 hs))
theorem wp_icmp_eq {x y : Int32} {off : Int} {t : Nat} (hd : decode M.2.1 pc = .ok (.if_icmp .eq off, 3)) (ht : (pc : Int) + off = (t : Int)) (k1 : x = y → WP al M k P t lv st h) (k2 : ¬ x = y → WP al M k P (pc + 3) lv st h) : WP al M k P pc lv (vI y :: vI x :: st) h := by
  intro p l e s m args below meth c D cA tr B H locs ls hP hS hw hl hs
  exact lv_icmp_eq B.1 B.2.1 hd ht (fun q => k1 q p l e s m args below meth c D cA tr B H locs ls hP hS hw hl (st2 hs)) (fun q => k2 q p l e s m args below meth c D cA tr B H locs ls hP hS hw hl (st2 hs))
theorem wp_icmp_ne {x y : Int32} {off : Int} {t : Nat} (hd : decode M.2.1 pc = .ok (.if_icmp .ne off, 3)) (ht : (pc : Int) + off = (t : Int)) (k1 : ¬ x = y → WP al M k P t lv st h) (k2 : x = y → WP al M k P (pc + 3) lv st h) : WP al M k P pc lv (vI y :: vI x :: st) h := by
  intro p l e s m args below meth c D cA tr B H locs ls hP hS hw hl hs
  exact lv_icmp_ne B.1 B.2.1 hd ht (fun q => k1 q p l e s m args below meth c D cA tr B H locs ls hP hS hw hl (st2 hs)) (fun q => k2 q p l e s m args below meth c D cA tr B H locs ls hP hS hw hl (st2 hs))
theorem wp_icmp_lt {x y : Int32} {off : Int} {t : Nat} (hd : decode M.2.1 pc = .ok (.if_icmp .lt off, 3)) (ht : (pc : Int) + off = (t : Int)) (k1 : x < y → WP al M k P t lv st h) (k2 : ¬ x < y → WP al M k P (pc + 3) lv st h) : WP al M k P pc lv (vI y :: vI x :: st) h := by
  intro p l e s m args below meth c D cA tr B H locs ls hP hS hw hl hs
  exact lv_icmp_lt B.1 B.2.1 hd ht (fun q => k1 q p l e s m args below meth c D cA tr B H locs ls hP hS hw hl (st2 hs)) (fun q => k2 q p l e s m args below meth c D cA tr B H locs ls hP hS hw hl (st2 hs))
theorem wp_icmp_ge {x y : Int32} {off : Int} {t : Nat} (hd : decode M.2.1 pc = .ok (.if_icmp .ge off, 3)) (ht : (pc : Int) + off = (t : Int)) (k1 : y ≤ x → WP al M k P t lv st h) (k2 : ¬ y ≤ x → WP al M k P (pc + 3) lv st h) : WP al M k P pc lv (vI y :: vI x :: st) h := by
  intro p l e s m args below meth c D cA tr B H locs ls hP hS hw hl hs
  exact lv_icmp_ge B.1 B.2.1 hd ht (fun q => k1 q p l e s m args below meth c D cA tr B H locs ls hP hS hw hl (st2 hs)) (fun q => k2 q p l e s m args below meth c D cA tr B H locs ls hP hS hw hl (st2 hs))
theorem wp_icmp_gt {x y : Int32} {off : Int} {t : Nat} (hd : decode M.2.1 pc = .ok (.if_icmp .gt off, 3)) (ht : (pc : Int) + off = (t : Int)) (k1 : y < x → WP al M k P t lv st h) (k2 : ¬ y < x → WP al M k P (pc + 3) lv st h) : WP al M k P pc lv (vI y :: vI x :: st) h := by
  intro p l e s m args below meth c D cA tr B H locs ls hP hS hw hl hs
  exact lv_icmp_gt B.1 B.2.1 hd ht (fun q => k1 q p l e s m args below meth c D cA tr B H locs ls hP hS hw hl (st2 hs)) (fun q => k2 q p l e s m args below meth c D cA tr B H locs ls hP hS hw hl (st2 hs))
theorem wp_icmp_le {x y : Int32} {off : Int} {t : Nat} (hd : decode M.2.1 pc = .ok (.if_icmp .le off, 3)) (ht : (pc : Int) + off = (t : Int)) (k1 : x ≤ y → WP al M k P t lv st h) (k2 : ¬ x ≤ y → WP al M k P (pc + 3) lv st h) : WP al M k P pc lv (vI y :: vI x :: st) h := by
  intro p l e s m args below meth c D cA tr B H locs ls hP hS hw hl hs
  exact lv_icmp_le B.1 B.2.1 hd ht (fun q => k1 q p l e s m args below meth c D cA tr B H locs ls hP hS hw hl (st2 hs)) (fun q => k2 q p l e s m args below meth c D cA tr B H locs ls hP hS hw hl (st2 hs))
theorem wp_goto {off : Int} {t : Nat} (hd : decode M.2.1 pc = .ok (.goto off, 3)) (ht : (pc : Int) + off = (t : Int)) (kk : WP al M k P t lv st h) : WP al M k P pc lv st h := by
  intro p l e s m args below meth c D cA tr B H locs ls hP hS hw hl hs
  exact lv_goto B.1 B.2.1 hd ht (kk p l e s m args below meth c D cA tr B H locs ls hP hS hw hl hs)
theorem wp_ldcw {idx : Nat} {x : Int32} (hd : decode M.2.1 pc = .ok (.ldc_w idx, 3)) (hg : Cond.constant M.1.cls idx x ∈ gt) (kk : WP al M k P (pc + 3) lv (vI x :: st) h) : WP al M k P pc lv st h := by
  intro p l e s m args below meth c D cA tr B H locs ls hP hS hw hl hs
  exact lv_ldcw B.1 B.2.1 B.2.2.2.2.2.1 (B.2.2.2.2.2.2.1 _ hg) hd (kk p l e s m args below meth c D cA tr B H locs ls hP hS hw hl (sc wfI hs))
theorem wp_ldc {idx : Nat} {x : Int32} (hd : decode M.2.1 pc = .ok (.ldc idx, 2)) (hg : Cond.constant M.1.cls idx x ∈ gt) (kk : WP al M k P (pc + 2) lv (vI x :: st) h) : WP al M k P pc lv st h := by
  intro p l e s m args below meth c D cA tr B H locs ls hP hS hw hl hs
  exact lv_ldc B.1 B.2.1 B.2.2.2.2.2.1 (B.2.2.2.2.2.2.1 _ hg) hd (kk p l e s m args below meth c D cA tr B H locs ls hP hS hw hl (sc wfI hs))
theorem wp_ldc2 {idx : Nat} {x : Int64} (hd : decode M.2.1 pc = .ok (.ldc2_w idx, 3)) (hg : Cond.constantLong M.1.cls idx x ∈ gt) (kk : WP al M k P (pc + 3) lv (vL x :: st) h) : WP al M k P pc lv st h := by
  intro p l e s m args below meth c D cA tr B H locs ls hP hS hw hl hs
  exact lv_ldc2 B.1 B.2.1 B.2.2.2.2.2.1 (B.2.2.2.2.2.2.1 _ hg) hd (kk p l e s m args below meth c D cA tr B H locs ls hP hS hw hl (sc wfL hs))
end OPS
