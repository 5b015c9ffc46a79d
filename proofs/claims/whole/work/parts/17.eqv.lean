/-! what lies behind an array's end is nothing -/
def Eqv (al : List Ad) (h h' : Hp) : Prop := (∀ a, a ∈ al → ∀ q, shp a.1 = .inr q → ∀ j, j < aln q a.2 → h.1 a.1 a.2 j = h'.1 a.1 a.2 j ∧ h.2.1 a.1 j = h'.2.1 a.1 j) ∧ (∀ a, a ∈ al → ∀ fds, shp a.1 = .inl fds → ∀ j, j < fds.length → h.1 a.1 a.2 j = h'.1 a.1 a.2 j) ∧ h'.2.2 = h.2.2
theorem arrV_cong {cI : ClassId} {N : Nat} {f g : Nat → Value} (e : ∀ j, j < N → f j = g j) : arrV cI N f = arrV cI N g := by
  unfold arrV
  congr 1
  congr 1
  funext j
  exact e j.val j.isLt
theorem vp_eqv_ {al : List Ad} {h h' : Hp} {D : va_G} {cA : Nat → ClassId} {tr : Ad → Nat} {H : Heap} (e : Eqv al h h') (hP : va_P D vwCl (wof cA tr h al) H) : va_P D vwCl (wof cA tr h' al) H := by
  intro k q hq
  unfold wof at hq
  rw [List.getElem?_map] at hq
  cases ha : al[k]? with
  | none => rw [ha] at hq; cases hq
  | some a =>
    rw [ha] at hq
    cases hq
    have hal := List.mem_of_getElem? ha
    have h0 := hP k _ (wof_at ha)
    show va_at D vwCl (tr a, cellOf cA tr h' a) H
    cases es : shp a.1 with
    | inl fds =>
      rw [cell_obj es] at h0 ⊢
      have e1 : fds.mapIdx (fun k fd => rfv tr h a k fd) = fds.mapIdx (fun k fd => rfv tr h' a k fd) := by
        apply List.ext_getElem?
        intro j
        rw [List.getElem?_mapIdx, List.getElem?_mapIdx]
        cases hf : fds[j]? with
        | none => rfl
        | some fd => exact congrArg some (rfv_cong (e.2.1 a hal fds es j (List.getElem?_eq_some_iff.mp hf).1) e.2.2.symm)
      rw [← e1]
      exact h0
    | inr q =>
      rw [cell_arr es] at h0 ⊢
      have h1 : H[tr a]? = some (vp_cell (cA q.1) (aln q a.2, acon tr h a q)) := h0
      show H[tr a]? = some (vp_cell (cA q.1) (aln q a.2, acon tr h' a q))
      rw [h1]
      congr 1
      have e1 := e.1 a hal q es
      by_cases c : q.1 = 0 ∨ q.1 = 2 ∨ q.1 = 3
      · rw [acon_i c, acon_i c]
        rw [vp_cell_i, vp_cell_i]
        exact arrV_cong (fun j hj => congrArg Value.int (e1 j hj).1)
      · by_cases c1 : q.1 = 1
        · rw [acon_l c1, acon_l c1]
          rw [vp_cell_l, vp_cell_l]
          exact arrV_cong (fun j hj => congrArg Value.long (e1 j hj).2)
        · have e2 : acon tr h a q = acon tr h' a q := by
            obtain ⟨t, r⟩ := q
            match t, c, c1 with
            | 0, c, _ => exact absurd (Or.inl rfl) c
            | 1, _, c1 => exact absurd rfl c1
            | 2, c, _ => exact absurd (Or.inr (Or.inl rfl)) c
            | 3, c, _ => exact absurd (Or.inr (Or.inr rfl)) c
            | t + 4, _, _ => rfl
          rw [e2]
theorem wp_eqv {al : List Ad} {M : MT} {k : Nat} {P : AV → Hp → Prop} {pc : Nat} {lv : List (Option AV)} {st : List AV} {h h' : Hp} (e : Eqv al h h') (hw : WP al M k P pc lv st h') : WP al M k P pc lv st h := by
  intro p l e' s m args below meth c D cA tr B H locs ls hP hS hwf0 hl hs
  refine hw p l e' s m args below meth c D cA tr B H locs ls (vp_eqv_ e hP) hS ?_ hl hs
  unfold hwf at hwf0 ⊢
  rw [e.2.2]
  exact hwf0
theorem eqv_V {al : List Ad} {h : Hp} {kd i : Nat} {q : Aq} {f g : Nat → Int32} (e : shp kd = .inr q) (hfg : ∀ j, j < aln q i → f j = g j) : Eqv al (sV h kd i f) (sV h kd i g) := by
  refine ⟨fun a _ q' e' j hj => ⟨?_, rfl⟩, fun a _ fds e' j _ => ?_, rfl⟩
  · by_cases c : a = (kd, i)
    · subst c
      cases e.symm.trans e'
      rw [sV_same, sV_same]
      exact hfg j hj
    · rw [sV_ne c, sV_ne c]
  · by_cases c : a = (kd, i)
    · subst c
      cases e.symm.trans e'
    · rw [sV_ne c, sV_ne c]
theorem eqv_hwf {al : List Ad} {h h' : Hp} (e : Eqv al h h') (w : hwf al h) : hwf al h' := by
  unfold hwf at w ⊢
  rw [e.2.2]
  exact w
/-- a weaker end -/
theorem ct_postE {al : List Ad} {M : MT} {k : Nat} {As : List AV} {h : Hp} {P P' : AV → Hp → Prop} (hc : Ct al M k As h P) (hp : ∀ v h', P v h' → ∃ h2, Eqv al h' h2 ∧ P' v h2) : Ct al M k As h P' := by
  intro l D cA tr h1 h2 h3 p e ha hb hk s m args below hf happ hP hT
  obtain ⟨n, o, q1, q2, q3, ⟨⟨v, h', hp0, ho, hP1, hw1, hv1⟩, hF⟩, L, hL1, hL2⟩ := hc l D cA tr h1 h2 h3 p e ha hb hk s m args below hf happ hP hT
  obtain ⟨h2, he, hp2⟩ := hp v h' hp0
  exact ⟨n, o, q1, q2, q3, ⟨⟨v, h2, hp2, ho, vp_eqv_ he hP1, eqv_hwf he hw1, hv1⟩, hF⟩, L, hL1, hL2⟩
theorem eqv_rf {al : List Ad} {h : Hp} : Eqv al h h := ⟨fun _ _ _ _ _ _ => ⟨rfl, rfl⟩, fun _ _ _ _ _ _ => rfl, rfl⟩
theorem ct_post {al : List Ad} {M : MT} {k : Nat} {As : List AV} {h : Hp} {P P' : AV → Hp → Prop} (hc : Ct al M k As h P) (hp : ∀ v h', P v h' → P' v h') : Ct al M k As h P' := ct_postE hc (fun v h' q => ⟨h', eqv_rf, hp v h' q⟩)
theorem loop_up {X : Nat → Prop} (n : Nat) (he : X n) (hs : ∀ i, i < n → X (i + 1) → X i) : ∀ i, i ≤ n → X i := by
  intro i hi
  obtain ⟨d, hd⟩ : ∃ d, n = i + d := ⟨n - i, by omega⟩
  induction d generalizing i with
  | zero => rw [Nat.add_zero] at hd; subst hd; exact he
  | succ d ih => exact hs i (by omega) (ih (i + 1) (by omega) (by omega))
/-! reading behind writes -/
theorem rdX {h : Hp} {k i j : Nat} {x : Int32} {k' i' j' : Nat} : (sX h k i j x).1 k' i' j' = if k' = k ∧ i' = i ∧ j' = j then x else h.1 k' i' j' := by
  unfold sX sV
  dsimp only
  by_cases c : k' = k ∧ i' = i
  · obtain ⟨rfl, rfl⟩ := c
    by_cases cj : j' = j
    · subst cj
      simp [upd]
    · simp [upd, cj]
  · rw [if_neg c, if_neg (fun q => c ⟨q.1, q.2.1⟩)]
theorem rdV {h : Hp} {k i : Nat} {f : Nat → Int32} {k' i' : Nat} : (sV h k i f).1 k' i' = if k' = k ∧ i' = i then f else h.1 k' i' := rfl
theorem rdVj {h : Hp} {k i : Nat} {f : Nat → Int32} {k' i' j' : Nat} : (sV h k i f).1 k' i' j' = if k' = k ∧ i' = i then f j' else h.1 k' i' j' := by
  unfold sV; dsimp only; split <;> rfl
theorem rdD {h : Hp} {x i : Nat} : (sD h x i).1 = h.1 := rfl
theorem rdL {h : Hp} {k j : Nat} {x : Int64} : (sL h k j x).1 = h.1 := rfl
