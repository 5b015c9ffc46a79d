theorem acon_i {tr : Ad → Nat} {h : Hp} {a : Ad} {q : Aq} (e : q.1 = 0 ∨ q.1 = 2 ∨ q.1 = 3) : acon tr h a q = .inl (h.1 a.1 a.2) := by
  obtain ⟨t, r⟩ := q
  rcases e with e | e | e <;> (cases e; rfl)
theorem acon_l {tr : Ad → Nat} {h : Hp} {a : Ad} {q : Aq} (e : q.1 = 1) : acon tr h a q = .inr (.inl (h.2.1 a.1)) := by
  obtain ⟨t, r⟩ := q
  cases e; rfl
theorem acon_r {tr : Ad → Nat} {h : Hp} {a : Ad} {q : Aq} (e : q.1 = 4 ∨ q.1 = 5) : acon tr h a q = .inr (.inr (.inr (.inr (fun i => some (tr (q.2.2.2.1, ein q a.2 i)))))) := by
  obtain ⟨t, r⟩ := q
  rcases e with e | e <;> (cases e; rfl)
theorem cell_arrX {cA : Nat → ClassId} {tr : Ad → Nat} {h : Hp} {a : Ad} {q : Aq} {f : Nat → Int32} (e : shp a.1 = .inr q) (e1 : q.1 = 0 ∨ q.1 = 2 ∨ q.1 = 3) : cellOf cA tr (sV h a.1 a.2 f) a = .inl (cA q.1, aln q a.2, .inl f) := by
  rw [cell_arr e, acon_i e1, sV_same]
theorem cell_arrL {cA : Nat → ClassId} {tr : Ad → Nat} {h : Hp} {a : Ad} {q : Aq} {j : Nat} {x : Int64} (e : shp a.1 = .inr q) (e1 : q.1 = 1) : cellOf cA tr (sL h a.1 j x) a = .inl (cA q.1, aln q a.2, .inr (.inl (vp_updL (h.2.1 a.1) j x))) := by
  rw [cell_arr e, acon_l e1]
  have e2 : (sL h a.1 j x).2.1 a.1 = vp_updL (h.2.1 a.1) j x := if_pos rfl
  rw [e2]
theorem cell_sL {cA : Nat → ClassId} {tr : Ad → Nat} {h : Hp} {k j : Nat} {x : Int64} (b : Ad) (hb : b.1 ≠ k) : cellOf cA tr (sL h k j x) b = cellOf cA tr h b := by
  cases e : shp b.1 with
  | inl fds => rw [cell_obj e, cell_obj e]; rfl
  | inr q =>
    rw [cell_arr e, cell_arr e]
    congr 2
    unfold acon
    have e1 : (sL h k j x).2.1 b.1 = h.2.1 b.1 := if_neg hb
    rw [e1]
    rfl
section ARR
variable {al : List Ad} {M : MT} {k : Nat} {P : AV → Hp → Prop} {pc : Nat} {lv : List (Option AV)} {st : List AV} {h : Hp}
theorem wp_iaload {kd i : Nat} {q : Aq} {j : Int32} (hd : decode M.2.1 pc = .ok (.iaload, 1)) (hsh : shp kd = .inr q) (h0 : q.1 = 0) (hin : vp_in j (aln q i)) (kk : WP al M k P (pc + 1) lv (vI (h.1 kd i j.toNatClampNeg) :: st) h) : WP al M k P pc lv (vI j :: vR kd i :: st) h := by
  intro p l e s m args below meth c D cA tr B H locs ls hP hS hw hl hs
  have ha : (kd, i) ∈ al := wf_obj (st0 (st1 hs)) (shp_90 hsh)
  obtain ⟨j0, hj, hcell⟩ := arr_at (cA := cA) (tr := tr) (h := h) ha hsh
  rw [acon_i (Or.inl h0), h0] at hcell
  exact va_iald B.1 B.2.1 B.2.2.2.2.2.2.2.1 hP j0 0 hcell rfl hin hd (kk p l e s m args below meth c D cA tr B H locs ls hP hS hw hl (sc wfI (st2 hs)))
theorem wp_baload {kd i : Nat} {q : Aq} {j : Int32} (hd : decode M.2.1 pc = .ok (.baload, 1)) (hsh : shp kd = .inr q) (h0 : q.1 = 2 ∨ q.1 = 3) (hin : vp_in j (aln q i)) (kk : WP al M k P (pc + 1) lv (vI (h.1 kd i j.toNatClampNeg) :: st) h) : WP al M k P pc lv (vI j :: vR kd i :: st) h := by
  intro p l e s m args below meth c D cA tr B H locs ls hP hS hw hl hs
  have ha : (kd, i) ∈ al := wf_obj (st0 (st1 hs)) (shp_90 hsh)
  obtain ⟨j0, hj, hcell⟩ := arr_at (cA := cA) (tr := tr) (h := h) ha hsh
  rw [acon_i (Or.inr h0)] at hcell
  rcases h0 with h0 | h0
  · rw [h0] at hcell
    exact va_bald B.1 B.2.1 B.2.2.2.2.2.2.2.1 hP j0 2 hcell rfl hin hd (kk p l e s m args below meth c D cA tr B H locs ls hP hS hw hl (sc wfI (st2 hs)))
  · rw [h0] at hcell
    exact va_zald B.1 B.2.1 B.2.2.2.2.2.2.2.1 hP j0 3 hcell rfl hin hd (kk p l e s m args below meth c D cA tr B H locs ls hP hS hw hl (sc wfI (st2 hs)))
theorem wp_laload {kd i : Nat} {q : Aq} {j : Int32} (hd : decode M.2.1 pc = .ok (.laload, 1)) (hsh : shp kd = .inr q) (h0 : q.1 = 1) (hin : vp_in j (aln q i)) (kk : WP al M k P (pc + 1) lv (vL (h.2.1 kd j.toNatClampNeg) :: st) h) : WP al M k P pc lv (vI j :: vR kd i :: st) h := by
  intro p l e s m args below meth c D cA tr B H locs ls hP hS hw hl hs
  have ha : (kd, i) ∈ al := wf_obj (st0 (st1 hs)) (shp_90 hsh)
  obtain ⟨j0, hj, hcell⟩ := arr_at (cA := cA) (tr := tr) (h := h) ha hsh
  rw [acon_l h0, h0] at hcell
  exact va_lald B.1 B.2.1 B.2.2.2.2.2.2.2.1 hP j0 1 hcell rfl hin hd (kk p l e s m args below meth c D cA tr B H locs ls hP hS hw hl (sc wfL (st2 hs)))
theorem wp_aaload {kd i : Nat} {q : Aq} {j : Int32} (hok : Okal al) (hd : decode M.2.1 pc = .ok (.aaload, 1)) (hsh : shp kd = .inr q) (h0 : q.1 = 4 ∨ q.1 = 5) (hin : vp_in j (aln q i)) (kk : WP al M k P (pc + 1) lv (vR q.2.2.2.1 (ein q i j.toNatClampNeg) :: st) h) : WP al M k P pc lv (vI j :: vR kd i :: st) h := by
  intro p l e s m args below meth c D cA tr B H locs ls hP hS hw hl hs
  have ha : (kd, i) ∈ al := wf_obj (st0 (st1 hs)) (shp_90 hsh)
  obtain ⟨j0, hj, hcell⟩ := arr_at (cA := cA) (tr := tr) (h := h) ha hsh
  have hlt : j.toNatClampNeg < aln q i := Nat.not_le.mp fun z => hin (Or.inr z)
  have hwf1 : wfV al (vR q.2.2.2.1 (ein q i j.toNatClampNeg)) := by
    intro b hb
    cases hb
    exact Or.inl ((hok.2.2 _ ha).2 q hsh (by omega) _ hlt)
  have K := kk p l e s m args below meth c D cA tr B H locs ls hP hS hw hl (sc hwf1 (st2 hs))
  rw [acon_r h0] at hcell
  have hcl := hP j0 _ hcell
  have hin2 : ¬ (j < 0 ∨ (arrV (cA q.1) (aln q i) (fun z => va_rf (some (tr (q.2.2.2.1, ein q i z))))).slots.size ≤ j.toNatClampNeg) := by rw [arrV_size]; exact hin
  have hrd : (arrV (cA q.1) (aln q i) (fun z => va_rf (some (tr (q.2.2.2.1, ein q i z))))).slots[j.toNatClampNeg]? = some (.ref (tr (q.2.2.2.1, ein q i j.toNatClampNeg))) := by rw [arrV_read _ _ hlt]; rfl
  rcases h0 with h0 | h0
  · exact W.aald (v := .ref (tr (q.2.2.2.1, ein q i j.toNatClampNeg))) (ty := .object "ByTheThumbs$State") B.1 B.2.1 hcl (by rw [h0]; exact (B.2.2.2.2.2.2.2.1.2 4 _ rfl).1 _ _) rfl (fun z => by cases z) hin2 hrd rfl rfl hd K
  · exact W.aald (v := .ref (tr (q.2.2.2.1, ein q i j.toNatClampNeg))) (ty := .array .int) B.1 B.2.1 hcl (by rw [h0]; exact (B.2.2.2.2.2.2.2.1.2 5 _ rfl).1 _ _) rfl (fun z => by cases z) hin2 hrd rfl rfl hd K
theorem wp_iastore {kd i : Nat} {q : Aq} {j x : Int32} (hok : Okal al) (hd : decode M.2.1 pc = .ok (.iastore, 1)) (hsh : shp kd = .inr q) (h0 : q.1 = 0) (hin : vp_in j (aln q i)) (kk : WP al M k P (pc + 1) lv st (sX h kd i j.toNatClampNeg x)) : WP al M k P pc lv (vI x :: vI j :: vR kd i :: st) h := by
  intro p l e s m args below meth c D cA tr B H locs ls hP hS hw hl hs
  have ha : (kd, i) ∈ al := wf_obj (st0 (st2 hs)) (shp_90 hsh)
  obtain ⟨j0, hj, hcell⟩ := arr_at (cA := cA) (tr := tr) (h := h) ha hsh
  rw [acon_i (Or.inl h0), h0] at hcell
  refine va_iast B.1 B.2.1 B.2.2.2.2.2.2.2.1 hP (wof_D hok.1 B.2.2.2.2.2.2.2.2.2) hS j0 0 hcell rfl hin hd (fun H1 locs1 hP1 _ hS1 => ?_)
  have e1 := wof_set (cA := cA) (tr := tr) (h := h) (h' := sX h kd i j.toNatClampNeg x) hok.1 hj (cell_arrX (a := (kd, i)) hsh (Or.inl h0)) (fun b hb => cell_sV b hb)
  rw [h0] at e1
  exact kk p l e s m args below meth c D cA tr B H1 locs1 ls (e1 ▸ hP1) hS1 (hwf_sV hw) hl (st3 hs)
theorem wp_bastore {kd i : Nat} {q : Aq} {j x : Int32} (hok : Okal al) (hd : decode M.2.1 pc = .ok (.bastore, 1)) (hsh : shp kd = .inr q) (h0 : q.1 = 2) (hin : vp_in j (aln q i)) (kk : WP al M k P (pc + 1) lv st (sX h kd i j.toNatClampNeg (vp_nar .byte x))) : WP al M k P pc lv (vI x :: vI j :: vR kd i :: st) h := by
  intro p l e s m args below meth c D cA tr B H locs ls hP hS hw hl hs
  have ha : (kd, i) ∈ al := wf_obj (st0 (st2 hs)) (shp_90 hsh)
  obtain ⟨j0, hj, hcell⟩ := arr_at (cA := cA) (tr := tr) (h := h) ha hsh
  rw [acon_i (Or.inr (Or.inl h0)), h0] at hcell
  refine va_bast B.1 B.2.1 B.2.2.2.2.2.2.2.1 hP (wof_D hok.1 B.2.2.2.2.2.2.2.2.2) hS j0 2 hcell rfl hin hd (fun H1 locs1 hP1 _ hS1 => ?_)
  have e1 := wof_set (cA := cA) (tr := tr) (h := h) (h' := sX h kd i j.toNatClampNeg (vp_nar .byte x)) hok.1 hj (cell_arrX (a := (kd, i)) hsh (Or.inr (Or.inl h0))) (fun b hb => cell_sV b hb)
  rw [h0] at e1
  exact kk p l e s m args below meth c D cA tr B H1 locs1 ls (e1 ▸ hP1) hS1 (hwf_sV hw) hl (st3 hs)
theorem wp_zastore {kd i : Nat} {q : Aq} {j x : Int32} (hok : Okal al) (hd : decode M.2.1 pc = .ok (.bastore, 1)) (hsh : shp kd = .inr q) (h0 : q.1 = 3) (hin : vp_in j (aln q i)) (kk : WP al M k P (pc + 1) lv st (sX h kd i j.toNatClampNeg (vp_nar .boolean x))) : WP al M k P pc lv (vI x :: vI j :: vR kd i :: st) h := by
  intro p l e s m args below meth c D cA tr B H locs ls hP hS hw hl hs
  have ha : (kd, i) ∈ al := wf_obj (st0 (st2 hs)) (shp_90 hsh)
  obtain ⟨j0, hj, hcell⟩ := arr_at (cA := cA) (tr := tr) (h := h) ha hsh
  rw [acon_i (Or.inr (Or.inr h0)), h0] at hcell
  refine va_zast B.1 B.2.1 B.2.2.2.2.2.2.2.1 hP (wof_D hok.1 B.2.2.2.2.2.2.2.2.2) hS j0 3 hcell rfl hin hd (fun H1 locs1 hP1 _ hS1 => ?_)
  have e1 := wof_set (cA := cA) (tr := tr) (h := h) (h' := sX h kd i j.toNatClampNeg (vp_nar .boolean x)) hok.1 hj (cell_arrX (a := (kd, i)) hsh (Or.inr (Or.inr h0))) (fun b hb => cell_sV b hb)
  rw [h0] at e1
  exact kk p l e s m args below meth c D cA tr B H1 locs1 ls (e1 ▸ hP1) hS1 (hwf_sV hw) hl (st3 hs)
theorem wp_lastore {kd i : Nat} {q : Aq} {j : Int32} {x : Int64} (hok : Okal al) (hd : decode M.2.1 pc = .ok (.lastore, 1)) (hsh : shp kd = .inr q) (h0 : q.1 = 1) (hin : vp_in j (aln q i)) (kk : WP al M k P (pc + 1) lv st (sL h kd j.toNatClampNeg x)) : WP al M k P pc lv (vL x :: vI j :: vR kd i :: st) h := by
  intro p l e s m args below meth c D cA tr B H locs ls hP hS hw hl hs
  have ha : (kd, i) ∈ al := wf_obj (st0 (st2 hs)) (shp_90 hsh)
  obtain ⟨j0, hj, hcell⟩ := arr_at (cA := cA) (tr := tr) (h := h) ha hsh
  rw [acon_l h0, h0] at hcell
  have h1 : ∀ b, b ∈ al → b.1 = kd → b.2 = i := fun b hb e => by
    have z1 : i = 0 := (hok.2.1 _ ha).2.2.1 q hsh h0
    rw [z1]
    exact (hok.2.1 _ hb).2.2.1 q (by rw [e]; exact hsh) h0
  refine va_last B.1 B.2.1 B.2.2.2.2.2.2.2.1 hP (wof_D hok.1 B.2.2.2.2.2.2.2.2.2) hS j0 1 hcell rfl hin hd (fun H1 locs1 hP1 _ hS1 => ?_)
  have e1 := wof_setM (cA := cA) (tr := tr) (h := h) (h' := sL h kd j.toNatClampNeg x) hok.1 hj (cell_arrL (a := (kd, i)) hsh h0) (fun b hb hb2 => cell_sL b (fun z => hb2 (by cases b; cases z; exact congrArg _ (h1 _ hb rfl))))
  rw [h0] at e1
  exact kk p l e s m args below meth c D cA tr B H1 locs1 ls (e1 ▸ hP1) hS1 (hwf_sL hw) hl (st3 hs)
theorem wp_alen {kd i : Nat} {q : Aq} (hd : decode M.2.1 pc = .ok (.arraylength, 1)) (hsh : shp kd = .inr q) (h0 : q.1 = 1) (kk : WP al M k P (pc + 1) lv (vI (Int32.ofNat (aln q i)) :: st) h) : WP al M k P pc lv (vR kd i :: st) h := by
  intro p l e s m args below meth c D cA tr B H locs ls hP hS hw hl hs
  have ha : (kd, i) ∈ al := wf_obj (st0 hs) (shp_90 hsh)
  obtain ⟨j0, hj, hcell⟩ := arr_at (cA := cA) (tr := tr) (h := h) ha hsh
  rw [h0] at hcell
  exact va_alen B.1 B.2.1 B.2.2.2.2.2.2.2.1 hP j0 1 hcell rfl rfl hd (kk p l e s m args below meth c D cA tr B H locs ls hP hS hw hl (sc wfI (st1 hs)))
/-! returns -/
theorem wp_ireturn {x : Int32} (hd : decode M.2.1 pc = .ok (.ireturn, 1)) (hr : M.2.2.2 = some .int) (hp : P (vI x) h) : WP al M k P pc lv [vI x] h := by
  intro p l e s m args below meth c D cA tr B H locs ls hP hS hw hl hs
  exact W.iret B.1 B.2.1 (B.2.2.2.1.trans hr) (fun t ht _ => ⟨⟨vI x, h, hp, by rw [hr]; rfl, by rw [ht]; exact hP, hw, wfI⟩, hS.F ht⟩) (fun q hq => hS.2.2 q hq) hd B.2.2.2.2.1
theorem wp_zreturn {x : Int32} (hd : decode M.2.1 pc = .ok (.ireturn, 1)) (hr : M.2.2.2 = some .boolean) (hx : x = 0 ∨ x = 1) (hp : P (vI x) h) : WP al M k P pc lv [vI x] h := by
  intro p l e s m args below meth c D cA tr B H locs ls hP hS hw hl hs
  exact W.zret B.1 B.2.1 (B.2.2.2.1.trans hr) (by rcases hx with rfl | rfl <;> rfl) (fun t ht _ => ⟨⟨vI x, h, hp, by rw [hr]; rfl, by rw [ht]; exact hP, hw, wfI⟩, hS.F ht⟩) (fun q hq => hS.2.2 q hq) hd B.2.2.2.2.1
theorem wp_lreturn {x : Int64} (hd : decode M.2.1 pc = .ok (.lreturn, 1)) (hr : M.2.2.2 = some .long) (hp : P (vL x) h) : WP al M k P pc lv [vL x] h := by
  intro p l e s m args below meth c D cA tr B H locs ls hP hS hw hl hs
  exact W.lret B.1 B.2.1 (B.2.2.2.1.trans hr) (fun t ht _ => ⟨⟨vL x, h, hp, by rw [hr]; rfl, by rw [ht]; exact hP, hw, wfL⟩, hS.F ht⟩) (fun q hq => hS.2.2 q hq) hd B.2.2.2.2.1
theorem wp_return (hd : decode M.2.1 pc = .ok (.return_, 1)) (hr : M.2.2.2 = none) (hp : P (vI 0) h) : WP al M k P pc lv [] h := by
  intro p l e s m args below meth c D cA tr B H locs ls hP hS hw hl hs
  exact W.vret B.1 B.2.1 (B.2.2.2.1.trans hr) (fun t ht _ => ⟨⟨vI 0, h, hp, by rw [hr]; rfl, by rw [ht]; exact hP, hw, wfI⟩, hS.F ht⟩) (fun q hq => hS.2.2 q hq) hd B.2.2.2.2.1
end ARR
