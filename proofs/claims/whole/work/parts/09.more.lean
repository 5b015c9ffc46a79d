section MORE
variable {al : List Ad} {M : MT} {k : Nat} {P : AV → Hp → Prop} {pc : Nat} {lv : List (Option AV)} {st : List AV} {h : Hp}
theorem ml_ok {tr : Ad → Nat} {p : Program} {s : State} {m : MethodId} {args : Array Value} {meth : Method} {c : Code} {D : va_G} {cA : Nat → ClassId} {ls : Array Slot} (B : BX al M p s m args meth c D cA tr) (hl : lvok al tr M.2.2.1 ls lv) : c.maxLocals = ls.size := B.2.2.1.trans hl.1.symm
theorem wp_mmax {idx : Nat} {x y : Int32} (hd : decode M.2.1 pc = .ok (.invokestatic idx, 3)) (g1 : Cond.methodLink M.1.cls idx Lib.Math.max.name ∈ gt) (g2 : Cond.static Lib.Math.max.name ∈ gt) (g3 : Cond.initialized "java/lang/Math" ∈ gt) (g4 : Cond.code Lib.Math.max.name Lib.Math.max.code 2 (some .int) ∈ gt) (hcat : catS st ≤ 8) (kk : WP al M (k + 1) P (pc + 3) lv (vI (if x < y then y else x) :: st) h) : WP al M (k + 1) P pc lv (vI y :: vI x :: st) h := by
  intro p l e s m args below meth c D cA tr B H locs ls hP hS hw hl hs
  have hts := B.2.2.2.2.2.2.1
  exact va_mmax B.1 B.2.1 (ml_ok B hl) B.2.2.2.2.2.1 (hts _ g1) (hts _ g2) (hts _ g3) (hts _ g4) (by show 1 ≤ k + 1; omega) (by rw [catS_ok]; show catS st + 13 ≤ 60 * (k + 1); omega) (Nat.le_refl _) (Nat.le_refl _) hd (kk p l e s m args below meth c D cA tr B H locs ls hP hS hw hl (sc wfI (st2 hs)))
theorem wp_mmin {idx : Nat} {x y : Int32} (hd : decode M.2.1 pc = .ok (.invokestatic idx, 3)) (g1 : Cond.methodLink M.1.cls idx Lib.Math.min.name ∈ gt) (g2 : Cond.static Lib.Math.min.name ∈ gt) (g3 : Cond.initialized "java/lang/Math" ∈ gt) (g4 : Cond.code Lib.Math.min.name Lib.Math.min.code 2 (some .int) ∈ gt) (hcat : catS st ≤ 8) (kk : WP al M (k + 1) P (pc + 3) lv (vI (if y < x then y else x) :: st) h) : WP al M (k + 1) P pc lv (vI y :: vI x :: st) h := by
  intro p l e s m args below meth c D cA tr B H locs ls hP hS hw hl hs
  have hts := B.2.2.2.2.2.2.1
  exact va_mmin B.1 B.2.1 (ml_ok B hl) B.2.2.2.2.2.1 (hts _ g1) (hts _ g2) (hts _ g3) (hts _ g4) (by show 1 ≤ k + 1; omega) (by rw [catS_ok]; show catS st + 13 ≤ 60 * (k + 1); omega) (Nat.le_refl _) (Nat.le_refl _) hd (kk p l e s m args below meth c D cA tr B H locs ls hP hS hw hl (sc wfI (st2 hs)))
theorem wp_mmaxL {idx : Nat} {x y : Int64} (hd : decode M.2.1 pc = .ok (.invokestatic idx, 3)) (g1 : Cond.methodLink M.1.cls idx Lib.MathLoose.max_long.x ∈ gt) (g2 : Cond.static Lib.MathLoose.max_long.x ∈ gt) (g3 : Cond.initialized "java/lang/Math" ∈ gt) (g4 : Cond.code Lib.MathLoose.max_long.x Lib.MathLoose.max_long.code 4 (some .long) ∈ gt) (hcat : catS st ≤ 8) (kk : WP al M (k + 1) P (pc + 3) lv (vL (if y < x then x else y) :: st) h) : WP al M (k + 1) P pc lv (vL y :: vL x :: st) h := by
  intro p l e s m args below meth c D cA tr B H locs ls hP hS hw hl hs
  have hts := B.2.2.2.2.2.2.1
  exact va_mmax_long B.1 B.2.1 (ml_ok B hl) B.2.2.2.2.2.1 (hts _ g1) (hts _ g2) (hts _ g3) (hts _ g4) (by show 1 ≤ k + 1; omega) (by rw [catS_ok]; show catS st + 15 ≤ 60 * (k + 1); omega) (Nat.le_refl _) (Nat.le_refl _) hd (kk p l e s m args below meth c D cA tr B H locs ls hP hS hw hl (sc wfL (st2 hs)))
theorem wp_mminL {idx : Nat} {x y : Int64} (hd : decode M.2.1 pc = .ok (.invokestatic idx, 3)) (g1 : Cond.methodLink M.1.cls idx Lib.MathLoose.min_long.x ∈ gt) (g2 : Cond.static Lib.MathLoose.min_long.x ∈ gt) (g3 : Cond.initialized "java/lang/Math" ∈ gt) (g4 : Cond.code Lib.MathLoose.min_long.x Lib.MathLoose.min_long.code 4 (some .long) ∈ gt) (hcat : catS st ≤ 8) (kk : WP al M (k + 1) P (pc + 3) lv (vL (if y < x then y else x) :: st) h) : WP al M (k + 1) P pc lv (vL y :: vL x :: st) h := by
  intro p l e s m args below meth c D cA tr B H locs ls hP hS hw hl hs
  have hts := B.2.2.2.2.2.2.1
  exact va_mmin_long B.1 B.2.1 (ml_ok B hl) B.2.2.2.2.2.1 (hts _ g1) (hts _ g2) (hts _ g3) (hts _ g4) (by show 1 ≤ k + 1; omega) (by rw [catS_ok]; show catS st + 15 ≤ 60 * (k + 1); omega) (Nat.le_refl _) (Nat.le_refl _) hd (kk p l e s m args below meth c D cA tr B H locs ls hP hS hw hl (sc wfL (st2 hs)))
theorem wp_mabsL {idx : Nat} {x : Int64} (hd : decode M.2.1 pc = .ok (.invokestatic idx, 3)) (g1 : Cond.methodLink M.1.cls idx Lib.MathLoose.abs_long.x ∈ gt) (g2 : Cond.static Lib.MathLoose.abs_long.x ∈ gt) (g3 : Cond.initialized "java/lang/Math" ∈ gt) (g4 : Cond.code Lib.MathLoose.abs_long.x Lib.MathLoose.abs_long.code 2 (some .long) ∈ gt) (hcat : catS st ≤ 8) (kk : WP al M (k + 1) P (pc + 3) lv (vL (if 0 < x then x else -x) :: st) h) : WP al M (k + 1) P pc lv (vL x :: st) h := by
  intro p l e s m args below meth c D cA tr B H locs ls hP hS hw hl hs
  have hts := B.2.2.2.2.2.2.1
  exact va_mabs_long B.1 B.2.1 (ml_ok B hl) B.2.2.2.2.2.1 (hts _ g1) (hts _ g2) (hts _ g3) (hts _ g4) (by show 1 ≤ k + 1; omega) (by rw [catS_ok]; show catS st + 13 ≤ 60 * (k + 1); omega) (Nat.le_refl _) (Nat.le_refl _) hd (kk p l e s m args below meth c D cA tr B H locs ls hP hS hw hl (sc wfL (st1 hs)))
theorem wp_acopy {idx kd i kd2 i2 : Nat} {q q2 : Aq} {sp dp n : Int32} (hok : Okal al) (hd : decode M.2.1 pc = .ok (.invokestatic idx, 3)) (g1 : Cond.methodLink M.1.cls idx arraycopyName ∈ gt) (g2 : Cond.native arraycopyName ∈ gt) (g3 : Cond.static arraycopyName ∈ gt) (g4 : Cond.initialized "java/lang/System" ∈ gt) (hsh : shp kd = .inr q) (h0 : q.1 = 0) (hsh2 : shp kd2 = .inr q2) (h02 : q2.1 = 0)
    (h1 : ¬ sp < 0) (h2 : ¬ dp < 0) (h3 : ¬ n < 0) (h4 : sp.toNatClampNeg + n.toNatClampNeg ≤ aln q i) (h5 : dp.toNatClampNeg + n.toNatClampNeg ≤ aln q2 i2) (hcat : catS st ≤ 8) (kk : WP al M (k + 1) P (pc + 3) lv st (sV h kd2 i2 (va_cpy (h.1 kd i) (h.1 kd2 i2) sp.toNatClampNeg dp.toNatClampNeg n.toNatClampNeg))) : WP al M (k + 1) P pc lv (vI n :: vI dp :: vR kd2 i2 :: vI sp :: vR kd i :: st) h := by
  intro p l e s m args below meth c D cA tr B H locs ls hP hS hw hl hs
  have hts := B.2.2.2.2.2.2.1
  have ha : (kd, i) ∈ al := wf_obj (st0 (st1 (st3 hs))) (shp_90 hsh)
  have ha2 : (kd2, i2) ∈ al := wf_obj (st0 (st2 hs)) (shp_90 hsh2)
  obtain ⟨j0, hj, hcell⟩ := arr_at (cA := cA) (tr := tr) (h := h) ha hsh
  obtain ⟨j2, hj2, hcell2⟩ := arr_at (cA := cA) (tr := tr) (h := h) ha2 hsh2
  rw [acon_i (Or.inl h0), h0] at hcell
  rw [acon_i (Or.inl h02), h02] at hcell2
  have en : nativeFrameWords "java/lang/System" "arraycopy" 5 = 7 := by decide
  have hlo : ((st.map (trV tr)).map fun v => v.category).sum + (nativeFrameWords "java/lang/System" "arraycopy" 5 + 11) ≤ (rmk (k + 1)).locals := by
    rw [catS_ok, en]
    show catS st + (7 + 11) ≤ 60 * (k + 1)
    omega
  have hfr : 1 ≤ (rmk (k + 1)).frames := by show 1 ≤ k + 1; omega
  refine va_copyi B.1 B.2.1 (ml_ok B hl) B.2.2.2.2.2.1 (hts _ g1) (hts _ g2) (hts _ g3) (hts _ g4) B.2.2.2.2.2.2.2.1 hP (wof_D hok.1 B.2.2.2.2.2.2.2.2.2) hS j0 j2 0 0 hcell hcell2 rfl rfl rfl h1 h2 h3 h4 h5 (fun _ _ => rfl) hfr hlo hd (fun H1 locs1 hP1 _ hS1 => ?_)
  have e1 := wof_set (cA := cA) (tr := tr) (h := h) (h' := sV h kd2 i2 (va_cpy (h.1 kd i) (h.1 kd2 i2) sp.toNatClampNeg dp.toNatClampNeg n.toNatClampNeg)) hok.1 hj2 (cell_arrX (a := (kd2, i2)) hsh2 (Or.inl h02)) (fun b hb => cell_sV b hb)
  rw [h02] at e1
  exact kk p l e s m args below meth c D cA tr B H1 locs1 ls (e1 ▸ hP1) hS1 (hwf_sV hw) hl (st2 (st3 hs))
/-! switches -/
def swP (x : Int32) (d : Nat) : List (Nat × Nat) → (Nat → Prop) → Prop
  | [], K => K d
  | (v, t) :: r, K => (x = nI v → K t) ∧ (¬ x = nI v → swP x d r K)
theorem swP_get {x : Int32} {d : Nat} {K : Nat → Prop} : ∀ (cs : List (Nat × Nat)), (∀ q ∈ cs, q.1 < 2147483648) → swP x d cs K → (∃ q, q ∈ cs ∧ x.toInt = (q.1 : Int) ∧ K q.2 ∧ ∀ (dflt pcI : Int), (d : Int) = pcI + dflt → Op.lookupswitch.offset (cs.map (fun q => ((q.1 : Int), (q.2 : Int) - pcI))) dflt x.toInt = (q.2 : Int) - pcI) ∨ ((∀ q ∈ cs, x.toInt ≠ (q.1 : Int)) ∧ K d ∧ ∀ (dflt pcI : Int), (d : Int) = pcI + dflt → Op.lookupswitch.offset (cs.map (fun q => ((q.1 : Int), (q.2 : Int) - pcI))) dflt x.toInt = dflt)
  | [], _, hk => Or.inr ⟨fun _ h => (by cases h), hk, fun _ _ _ => rfl⟩
  | (v, t) :: r, hb, hk => by
    have hv : (nI v).toInt = (v : Int) := nI_toInt (hb (v, t) List.mem_cons_self)
    by_cases e : x = nI v
    · refine Or.inl ⟨(v, t), List.mem_cons_self, by rw [e, hv], hk.1 e, fun dflt pcI _ => ?_⟩
      rw [List.map_cons, Op.lookupswitch.offset_cons, if_pos (by rw [e, hv])]
    · have hne : ¬ (v : Int) = x.toInt := fun z => e (Int32.toInt_inj.mp (by rw [hv]; exact z.symm))
      rcases swP_get r (fun q hq => hb q (List.mem_cons_of_mem _ hq)) (hk.2 e) with ⟨q, h1, h2, h3, h4⟩ | ⟨h1, h2, h3⟩
      · exact Or.inl ⟨q, List.mem_cons_of_mem _ h1, h2, h3, fun dflt pcI z => by rw [List.map_cons, Op.lookupswitch.offset_cons, if_neg hne]; exact h4 dflt pcI z⟩
      · exact Or.inr ⟨fun q hq => (List.mem_cons.mp hq).elim (fun z => by subst z; exact fun y => hne y.symm) (h1 q), h2, fun dflt pcI z => by rw [List.map_cons, Op.lookupswitch.offset_cons, if_neg hne]; exact h3 dflt pcI z⟩
theorem swP_mono {x : Int32} {d : Nat} {K K' : Nat → Prop} (hK : ∀ t, K t → K' t) : ∀ (cs : List (Nat × Nat)), swP x d cs K → swP x d cs K'
  | [], h => hK _ h
  | (_, _) :: r, h => ⟨fun e => hK _ (h.1 e), fun e => swP_mono hK r (h.2 e)⟩
theorem wp_lookup {dflt : Int} {ps : Array (Int × Int)} {len : Nat} {x : Int32} {d : Nat} {cs : List (Nat × Nat)} (hd : decode M.2.1 pc = .ok (.lookupswitch dflt ps, len)) (hp : (ps.toList.zip (ps.toList.drop 1)).all (fun (a, next) => a.1 < next.1) = true) (hcs : cs.map (fun q => ((q.1 : Int), (q.2 : Int) - (pc : Int))) = ps.toList) (hb : ∀ q ∈ cs, q.1 < 2147483648) (hdd : (d : Int) = (pc : Int) + dflt) (kk : swP x d cs (fun t => WP al M k P t lv st h)) : WP al M k P pc lv (vI x :: st) h := by
  intro p l e s m args below meth c D cA tr B H locs ls hP hS hw hl hs
  rcases swP_get cs hb kk with ⟨q, _, _, h3, h4⟩ | ⟨_, h2, h3⟩
  · exact lv_lookup (tgt := q.2) (off := (q.2 : Int) - (pc : Int)) B.1 B.2.1 hd hp (by rw [← hcs]; exact h4 dflt _ hdd) (by omega) (h3 p l e s m args below meth c D cA tr B H locs ls hP hS hw hl (st1 hs))
  · exact lv_lookup (tgt := d) (off := dflt) B.1 B.2.1 hd hp (by rw [← hcs]; exact h3 dflt _ hdd) (by omega) (h2 p l e s m args below meth c D cA tr B H locs ls hP hS hw hl (st1 hs))
theorem wp_table {dflt lo hi : Int} {offs : Array Int} {len : Nat} {x : Int32} {d : Nat} {cs : List (Nat × Nat)} (hd : decode M.2.1 pc = .ok (.tableswitch dflt lo hi offs, len)) (hcs : cs = (offs.toList.zipIdx).map (fun q => ((lo + (q.2 : Int)).toNat, ((pc : Int) + q.1).toNat))) (hlo : 0 ≤ lo) (hof : ∀ o ∈ offs.toList, 0 ≤ (pc : Int) + o) (hhi : hi + 1 = lo + offs.size) (hb : ∀ q ∈ cs, q.1 < 2147483648) (hdd : (d : Int) = (pc : Int) + dflt) (kk : swP x d cs (fun t => WP al M k P t lv st h)) : WP al M k P pc lv (vI x :: st) h := by
  intro p l e s m args below meth c D cA tr B H locs ls hP hS hw hl hs
  rcases swP_get cs hb kk with ⟨q, h1, h2, h3, _⟩ | ⟨h1, h2, _⟩
  · rw [hcs] at h1
    obtain ⟨r, hr, rfl⟩ := List.mem_map.mp h1
    obtain ⟨o, i⟩ := r
    have hi1 := List.mem_zipIdx_iff_getElem?.mp hr
    have hlt : i < offs.size := by
      have := (List.getElem?_eq_some_iff.mp hi1).1
      rwa [Array.length_toList] at this
    have ho := hof o (List.mem_of_getElem? hi1)
    simp only at h2 h3 hi1
    refine lv_tableIn (tgt := ((pc : Int) + o).toNat) (off := o) B.1 B.2.1 hd (by omega) (by omega) ?_ (by omega) (h3 p l e s m args below meth c D cA tr B H locs ls hP hS hw hl (st1 hs))
    rw [show (x.toInt - lo).toNat = i by omega, ← Array.getElem?_toList]
    exact hi1
  · refine lv_tableOut (tgt := d) B.1 B.2.1 hd ?_ (by omega) (h2 p l e s m args below meth c D cA tr B H locs ls hP hS hw hl (st1 hs))
    rcases Int.lt_or_le x.toInt lo with z | z
    · exact Or.inl z
    · refine Or.inr ?_
      rcases Int.lt_or_le hi x.toInt with z2 | z2
      · exact z2
      · exfalso
        have hlt : (x.toInt - lo).toNat < offs.toList.length := by rw [Array.length_toList]; omega
        have hm : (((lo + (((x.toInt - lo).toNat : Nat) : Int)).toNat, ((pc : Int) + offs.toList[(x.toInt - lo).toNat]).toNat) : Nat × Nat) ∈ cs := by
          rw [hcs]
          exact List.mem_map.mpr ⟨(offs.toList[(x.toInt - lo).toNat], (x.toInt - lo).toNat), List.mem_zipIdx_iff_getElem?.mpr (List.getElem?_eq_getElem hlt), rfl⟩
        have := h1 _ hm
        simp only at this
        omega
/-! fields whose cells change, String constants -/
theorem cell_sD {cA : Nat → ClassId} {tr : Ad → Nat} {h : Hp} {x i : Nat} (b : Ad) (hb : ∀ fds, shp b.1 = .inl fds → ∀ (j : Nat) (fd : Fdk), fds[j]? = some fd → 3 ≤ fd.1 → fd.2.1 ≠ x) : cellOf cA tr (sD h x i) b = cellOf cA tr h b := by
  cases e : shp b.1 with
  | inl fds =>
    rw [cell_obj e, cell_obj e]
    congr 2
    apply List.ext_getElem?
    intro j
    rw [List.getElem?_mapIdx, List.getElem?_mapIdx]
    cases hf : fds[j]? with
    | none => rfl
    | some fd =>
      refine congrArg some ?_
      obtain ⟨t, x1, y, z⟩ := fd
      have hx := hb fds e j _ hf
      by_cases h3 : 3 ≤ t
      · have e1 : (sD h x i).2.2 x1 = h.2.2 x1 := if_neg (hx h3)
        unfold rfv fval
        simp only [e1]
        rfl
      · rcases (by omega : t = 0 ∨ t = 1 ∨ t = 2) with rfl | rfl | rfl <;> rfl
  | inr q => rw [cell_arr e, cell_arr e]; rfl
theorem wp_putd {idx ci kf i i2 t x y z : Nat} {fds : List Fdk} {q : vw_C} {ty : FieldType} (hok : Okal al) (hd : decode M.2.1 pc = .ok (.putfield idx, 3)) (hq : vwCl[ci]? = some q) (hk : kf < q.2.2) (hg : Cond.fieldLink M.1.cls idx (q.2.1 kf).1 (q.2.1 kf).2.1 (q.2.1 kf).2.2.1 ∈ gt) (hsh : shp ci = .inl fds) (hf : fds[kf]? = some (t, x, y, z)) (h3 : t = 3 ∨ (t = 4 ∧ y = 43)) (h9 : y < 90) (hfin : (q.2.1 kf).2.2.2 = false) (hpd : parseFieldDescriptor (q.2.1 kf).2.2.1 = some ty) (hn : ∀ a, narrow ty (.ref a) = .ref a) (hft : ∀ a, fits ty (.ref a) = true) (kk : WP al M k P (pc + 3) lv st (sD h x i2)) : WP al M k P pc lv (vR y i2 :: vR ci i :: st) h := by
  intro p l e s m args below meth c D cA tr B H locs ls hP hS hw hl hs
  have ha : (ci, i) ∈ al := wf_obj (st0 (st1 hs)) (cl_90 hq)
  have hb : (y, i2) ∈ al := wf_obj (st0 hs) h9
  obtain ⟨j, hj, hcell⟩ := obj_at (cA := cA) (tr := tr) (h := h) ha hsh
  obtain ⟨c1, ty0, c2, c3⟩ := cl_ok ci q hq
  have hl2 : kf < (fds.mapIdx (fun k fd => rfv tr h (ci, i) k fd)).length := by rw [List.length_mapIdx]; exact (List.getElem?_eq_some_iff.mp hf).1
  have ht3 : 3 ≤ t := by omega
  have hme := (hok.2.1 _ ha).2.2.2 fds hsh kf _ hf ht3
  have huniq : ∀ b, b ∈ al → ∀ fds', shp b.1 = .inl fds' → ∀ (j' : Nat) (fd' : Fdk), fds'[j']? = some fd' → 3 ≤ fd'.1 → fd'.2.1 = x → b = (ci, i) ∧ j' = kf := by
    intro b hbal fds' e' j' fd' hf' h3' hx'
    have h1 := (hok.2.1 _ hbal).2.2.2 fds' e' j' _ hf' h3'
    rw [hx'] at h1
    have h2 : (b.1, j') = (ci, kf) := h1.2.symm.trans hme.2
    have hi0 : i = 0 := hme.1
    obtain ⟨e1, e2⟩ := Prod.mk.injEq .. ▸ h2
    exact ⟨Prod.ext e1 (h1.1.trans hi0.symm), e2⟩
  have hnn : t = 4 → ¬ i2 = 7 := by
    intro h4
    rcases h3 with h3 | ⟨-, rfl⟩
    · omega
    · exact (hok.2.1 _ hb).2.1 rfl
  refine va_put B.1 B.2.1 B.2.2.2.2.2.2.1 c1 ty0 c2 c3 B.2.2.2.2.2.1 B.2.2.2.2.2.2.2.1 hP (wof_D hok.1 B.2.2.2.2.2.2.2.2.2) hS j hcell hq kf hk (B.2.2.2.2.2.2.1 _ hg) (fun _ z => z) hfin hpd (hn _) (hft _) hl2 hd (fun H1 locs1 hP1 _ hS1 => ?_)
  have ec : cellOf cA tr (sD h x i2) (ci, i) = .inr (ci, (fds.mapIdx (fun k fd => rfv tr h (ci, i) k fd)).set kf (.ref (tr (y, i2)))) := by
    rw [cell_obj (a := (ci, i)) hsh]
    congr 2
    apply List.ext_getElem?
    intro j'
    have hl3 := (List.getElem?_eq_some_iff.mp hf).1
    by_cases hj' : j' = kf
    · subst hj'
      rw [List.getElem?_set_self hl2, List.getElem?_mapIdx, hf]
      refine congrArg some ?_
      have e1 : (sD h x i2).2.2 x = i2 := if_pos rfl
      rcases h3 with rfl | ⟨rfl, -⟩
      · show trV tr (vR y ((sD h x i2).2.2 x)) = _
        rw [e1]
        rfl
      · show (if (sD h x i2).2.2 x = 7 then Value.null else trV tr (vR y ((sD h x i2).2.2 x))) = _
        rw [e1, if_neg (hnn rfl)]
        rfl
    · rw [List.getElem?_set_ne (Ne.symm hj'), List.getElem?_mapIdx, List.getElem?_mapIdx]
      cases hf' : fds[j']? with
      | none => rfl
      | some fd =>
        refine congrArg some ?_
        obtain ⟨t', x', y', z'⟩ := fd
        by_cases h3' : 3 ≤ t'
        · have hne : x' ≠ x := fun z => hj' (huniq _ ha fds hsh j' _ hf' h3' z).2
          have e1 : (sD h x i2).2.2 x' = h.2.2 x' := if_neg hne
          unfold rfv fval
          simp only [e1]
          rfl
        · rcases (by omega : t' = 0 ∨ t' = 1 ∨ t' = 2) with rfl | rfl | rfl <;> rfl
  have e1 := wof_setM (cA := cA) (tr := tr) (h := h) (h' := sD h x i2) hok.1 hj ec (fun b hbal hbne => cell_sD b (fun fds' e' j' fd' hf' h3' hx' => hbne (huniq b hbal fds' e' j' fd' hf' h3' hx').1))
  refine kk p l e s m args below meth c D cA tr B H1 locs1 ls (e1 ▸ hP1) hS1 (fun a haal fds' e' fd' hf' => ?_) hl (st2 hs)
  have h0 := hw a haal fds' e' fd' hf'
  by_cases hx' : fd'.2.1 = x ∧ 3 ≤ fd'.1
  · obtain ⟨j', hj'⟩ := List.getElem?_of_mem hf'
    obtain ⟨ea, ej⟩ := huniq a haal fds' e' j' fd' hj' hx'.2 hx'.1
    subst ea
    subst ej
    cases hsh.symm.trans e'
    cases hf.symm.trans hj'
    have e2 : (sD h x i2).2.2 x = i2 := if_pos rfl
    exact ⟨fun _ => by show (y, (sD h x i2).2.2 x) ∈ al; rw [e2]; exact hb, fun _ => Or.inr (by show (y, (sD h x i2).2.2 x) ∈ al; rw [e2]; exact hb)⟩
  · refine ⟨fun h3' => ?_, fun h4' => ?_⟩
    · have e2 : (sD h x i2).2.2 fd'.2.1 = h.2.2 fd'.2.1 := if_neg (fun z => hx' ⟨z, by omega⟩)
      rw [e2]
      exact h0.1 h3'
    · have e2 : (sD h x i2).2.2 fd'.2.1 = h.2.2 fd'.2.1 := if_neg (fun z => hx' ⟨z, by omega⟩)
      rw [e2]
      exact h0.2 h4'
def strOK (own : String) (idx i : Nat) : Bool := match i with
  | 0 => decide (own = RX11 ∧ idx = 25)
  | 1 => decide (own = RX1 ∧ idx = 11)
  | 2 => decide (own = RX6 ∧ idx = 24)
  | _ => false
theorem wp_ldcs {idx i : Nat} (hd : decode M.2.1 pc = .ok (.ldc idx, 2)) (hi : strOK M.1.cls idx i = true) (kk : WP al M k P (pc + 2) lv (vR 90 i :: st) h) : WP al M k P pc lv st h := by
  intro p l e s m args below meth c D cA tr B H locs ls hP hS hw hl hs
  have hX := B.2.2.2.2.2.2.2.2.1
  have hi3 : i < 3 := by
    rcases Nat.lt_or_ge i 3 with z | z
    · exact z
    · obtain ⟨j, rfl⟩ : ∃ j, i = j + 3 := ⟨i - 3, by omega⟩
      cases hi
  have K := kk p l e s m args below meth c D cA tr B H locs ls hP hS hw hl (sc (fun a ha => by cases ha; exact Or.inr ⟨Nat.le_refl _, hi3⟩) hs)
  match i, hi, K with
  | 0, hi, K =>
    obtain ⟨h1, rfl⟩ := of_decide_eq_true hi
    exact va_ldcS B.1 B.2.1 (own := RX11) (by rw [← h1]; exact B.2.2.2.2.2.1) hX.2.1 hd K
  | 1, hi, K =>
    obtain ⟨h1, rfl⟩ := of_decide_eq_true hi
    exact va_ldcS B.1 B.2.1 (own := RX1) (by rw [← h1]; exact B.2.2.2.2.2.1) hX.2.2.1 hd K
  | 2, hi, K =>
    obtain ⟨h1, rfl⟩ := of_decide_eq_true hi
    exact va_ldcS B.1 B.2.1 (own := RX6) (by rw [← h1]; exact B.2.2.2.2.2.1) hX.2.2.2.1 hd K
  | n + 3, hi, K => cases hi
theorem wp_callStr {idx n i : Nat} {Mc : MT} {As rest : List AV} {P' : AV → Hp → Prop} (hok : Okal al) (hd : decode M.2.1 pc = .ok (.invokevirtual idx, 3)) (hn : As.length = n) (hqc : "java/lang/String" = Mc.1.cls) (g1 : Cond.methodLink M.1.cls idx Mc.1 ∈ gt) (g2 : Cond.instanceMethod Mc.1 ∈ gt) (g5 : Cond.selects Mc.1.cls Mc.1 Mc.1 ∈ gt) (g3 : Cond.initialized Mc.1.cls ∈ gt) (g4 : Cond.code Mc.1 Mc.2.1 Mc.2.2.1 Mc.2.2.2 ∈ gt)
    (hy : Mc.1.cls ≠ "java/lang/invoke/MethodHandle" ∧ Mc.1.cls ≠ "java/lang/invoke/VarHandle" ∧ (parseMethodDescriptor Mc.1.desc).map (fun d => d.parameters.length) = some n) (hm : Mc.2.2.1 ≤ 41) (hcat : catS rest ≤ 8)
    (hC : Ct al Mc k (vR 90 i :: As) h P') (kk : ∀ v h', P' v h' → WP al M (k + 1) P (pc + 3) lv (retL Mc.2.2.2 v rest) h') : WP al M (k + 1) P pc lv (As.reverse ++ vR 90 i :: rest) h := by
  intro p l e s m args below meth c D cA tr B H locs ls hP hS hw hl hs
  have hsA : stok al (vR 90 i :: As) := fun v hv => (List.mem_cons.mp hv).elim (fun z => hs v (List.mem_append_right _ (List.mem_cons.mpr (Or.inl z)))) (fun z => hs v (List.mem_append_left _ (List.mem_reverse.mpr z)))
  have hsR : stok al rest := fun v hv => hs v (List.mem_append_right _ (List.mem_cons_of_mem _ hv))
  have hts := B.2.2.2.2.2.2.1
  have hi3 : i < 3 := by
    rcases st0 hsA _ rfl with z | z
    · exact absurd (hok.2.1 _ z).1 (by show ¬ 90 < 90; omega)
    · exact z.2
  obtain ⟨hE, -⟩ := B.2.2.2.2.2.2.2.2.1
  have hrecv := vk_recv hE hi3 hS
  rw [hqc] at hrecv
  refine run_go (va_runV (Ts := gt) (C := Mc.1.cls) (b := tr (90, i)) (As := As.map (trV tr)) (rest := rest.map (trV tr)) ⟨B.1, B.2.1, B.2.2.1, B.2.2.2.2.2.1, hts⟩ (hC l D cA tr B.2.2.2.2.2.2.2.2.2 hw hsA)
    ⟨callB_of n hts (gin Mc g4) rfl rfl rfl (hts _ g3) (hts _ g1) hy ⟨Nat.le_refl _, by show 8 + (Mc.2.2.1 + 11) + 60 * k ≤ 60 * (k + 1); omega⟩, hts _ g2, hts _ g5⟩
    ⟨pcx_blind, hrecv, fun U hU hW => ⟨rfl, by rw [hU]; exact hP, va_K.moved hW.alike B.2.2.2.2.2.2.2.1, B.2.2.2.2.2.2.2.2.1.go hS hU hW⟩⟩ rfl (by rw [List.length_map]; exact hn) hl.1 (by show List.map (trV tr) (As.reverse ++ vR 90 i :: rest) = _; rw [List.map_append, List.map_reverse]; rfl)
    (lv_room (by rw [catS_ok]; exact hcat)) hd ⟨Nat.le_refl _, Nat.le_refl _⟩) hS (fun v h' H1 locs1 hp hP1 hw1 hv1 hS1 => ?_)
  exact kk v h' hp p l e s m args below meth c D cA tr B H1 locs1 ls hP1 hS1 hw1 hl (retL_st hv1 hsR)
end MORE
