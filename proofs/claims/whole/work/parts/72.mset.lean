/-! the reference: kept, settings -/
theorem in01 {x : Int32} : inB (nI 0) (nI 1) x = okS x := by
  have := inB_has (n := 2) (by omega) x
  exact this
theorem in03 {x : Int32} : inB (nI 0) (nI 3) x = hasN x 4 := by
  have := inB_has (n := 4) (by omega) x
  exact this
theorem nar_b1 : vp_nar .boolean (nI 1) = nI 1 := by decide
theorem m_Keep {B k : Nat} {h : Hp} {g : GS} {x : Int32} (a : MI B h g) : Ct alM mX12_keep (k + 1) [vR 12 0, vI x] h (fun v h' => v = vI (b2 (okS x)) ∧ MI B h' (nKeep g x)) := by
  have a0 := a.fld (j := 10) (x := nI 0) (by decide)
  refine ct_vc tX12_keep [] 40 okM kX12_keep rfl ?_
  refine ⟨_, c_min, ?_⟩
  rintro v h1 ⟨rfl, rfl⟩
  rw [in01]
  unfold nKeep
  refine ⟨fun c => ?_, fun c => ?_⟩
  · have c' := b2_n0.mp c
    obtain ⟨j, hj, rfl⟩ := okS_get c'
    rw [c', if_pos rfl, nI_clamp (show j < 2 ^ 31 by omega)]
    obtain ⟨h0, hh0⟩ : ∃ h0, sX h 12 0 10 (nI 0) = h0 := ⟨_, rfl⟩
    rw [hh0] at a0
    refine ⟨ix1 2 hj, ix1 2 hj, ?_⟩
    obtain ⟨c0, b0, b1, b2⟩ := a0.2.2.2.2.2.2.2.1
    refine ⟨_, ct_cv (c_layK (i := 0) (q := 47 * j) (by omega)) (congrArg (fun x => [vR 40 0, vR 58 0, vI x]) (by rw [nI_mul])) rfl, ?_⟩
    rintro v h2 rfl
    rw [hh0, nI_clamp (show j < 2 ^ 31 by omega), nar_b1]
    refine ⟨Or.inr rfl, rfl, ?_⟩
    refine a0.with (S := [(58, 0), (59, 0), (60, 0)]) (F := []) (fun k i n n2 => ?_) (fun j _ => ?_) ⟨rfl, rfl⟩ (Or.inl ⟨by decide, by decide, rfl, rfl⟩) (Or.inl ⟨by decide, by decide, rfl⟩) (Or.inl ⟨by decide, by decide, rfl⟩) (Or.inl ⟨by decide, by decide, rfl⟩) (Or.inl ⟨rfl, by decide, rfl⟩) (Or.inl ⟨by decide, by decide, by decide, rfl⟩) (Or.inl ⟨by decide, by decide, rfl⟩) (Or.inr ⟨c0, b0, ?_, fun i hi => ?_⟩) (Or.inl ⟨by decide, by decide, rfl⟩) (Or.inl ⟨by decide, by decide, by decide, rfl⟩)
    · rw [rdV, if_neg (fun z => n2 (by rw [z.1, z.2]; simp)), sX_row, if_neg (fun z => n2 (by rw [z.1, z.2]; simp)), sX_row, if_neg (fun z => n2 (by rw [z.1, z.2]; simp))]
    · rw [rdV, if_neg (by simp), rdX, if_neg (by simp), rdX, if_neg (by simp)]
    · rw [rdV, if_neg (by simp), rdX, if_neg (by simp), rdX, if_neg (by simp)]; exact b1
    · have e60 : ∀ i, (sV (sX (sX h0 59 0 j (nI 1)) 60 0 j ((sX h0 59 0 j (nI 1)).1 12 0 45)) 58 0 (cpA ((sX (sX h0 59 0 j (nI 1)) 60 0 j ((sX h0 59 0 j (nI 1)).1 12 0 45)).1 58 0) (47 * j) ((sX (sX h0 59 0 j (nI 1)) 60 0 j ((sX h0 59 0 j (nI 1)).1 12 0 45)).1 40 0) 47)).1 60 0 i = if i = j then nI c0 else h0.1 60 0 i := by
        intro i
        rw [rdV, if_neg (by simp), sX_row, if_pos (by simp)]
        unfold upd
        split
        · rw [rdX, if_neg (by simp)]; exact b1
        · rw [rdX, if_neg (by simp)]
      have e59 : ∀ i, (sV (sX (sX h0 59 0 j (nI 1)) 60 0 j ((sX h0 59 0 j (nI 1)).1 12 0 45)) 58 0 (cpA ((sX (sX h0 59 0 j (nI 1)) 60 0 j ((sX h0 59 0 j (nI 1)).1 12 0 45)).1 58 0) (47 * j) ((sX (sX h0 59 0 j (nI 1)) 60 0 j ((sX h0 59 0 j (nI 1)).1 12 0 45)).1 40 0) 47)).1 59 0 i = if i = j then nI 1 else h0.1 59 0 i := by
        intro i
        rw [rdV, if_neg (by simp), sX_row, if_neg (by simp), sX_row, if_pos (by simp)]
        rfl
      have e58 : ∀ i, (sV (sX (sX h0 59 0 j (nI 1)) 60 0 j ((sX h0 59 0 j (nI 1)).1 12 0 45)) 58 0 (cpA ((sX (sX h0 59 0 j (nI 1)) 60 0 j ((sX h0 59 0 j (nI 1)).1 12 0 45)).1 58 0) (47 * j) ((sX (sX h0 59 0 j (nI 1)) 60 0 j ((sX h0 59 0 j (nI 1)).1 12 0 45)).1 40 0) 47)).1 58 0 i = if 47 * j ≤ i ∧ i < 47 * j + 47 then mS (gS g) (i - 47 * j) else h0.1 58 0 i := by
        intro i
        rw [sV_same]
        unfold cpA
        have : (sX (sX h0 59 0 j (nI 1)) 60 0 j ((sX h0 59 0 j (nI 1)).1 12 0 45)).1 40 0 = mS (gS g) := by rw [sX_row, if_neg (by simp), sX_row, if_neg (by simp)]; exact a0.1.1
        rw [this]
        split
        · rfl
        · rw [sX_row, if_neg (by simp), sX_row, if_neg (by simp)]
      rw [e59, e60]
      simp only [e58]
      refine ⟨fun s hs => ?_, fun hs => ?_⟩
      · have hs' : (if i = j then some (gS g) else gK g i) = some s := hs
        by_cases ci : i = j
        · rw [if_pos ci] at hs' ⊢
          cases hs'
          refine ⟨rfl, if_pos ci, fun q hq => ?_⟩
          rw [if_pos (by omega)]
          congr 1; omega
        · rw [if_neg ci] at hs' ⊢
          obtain ⟨k1, k2, k3⟩ := (b2 i hi).1 s hs'
          refine ⟨k1, by rw [if_neg ci]; exact k2, fun q hq => ?_⟩
          rw [if_neg (by omega)]
          exact k3 q hq
      · have hs' : (if i = j then some (gS g) else gK g i) = none := hs
        by_cases ci : i = j
        · rw [if_pos ci] at hs'; cases hs'
        · rw [if_neg ci] at hs'
          rw [if_neg ci, if_neg ci]
          exact (b2 i hi).2 hs'
  · have c' := b2_0.mp (nn c)
    rw [c', if_neg (by decide)]
    exact ⟨Or.inl rfl, rfl, a0⟩
theorem m_Again {B k : Nat} {h : Hp} {g : GS} {x : Int32} (a : MI B h g) (hB : B ≤ 10000) : Ct alM mX12_again (k + 1) [vR 12 0, vI x] h (fun v h' => v = vI (b2 (agB g x)) ∧ MI B h' (nAgain g x)) := by
  have a0 := a.fld (j := 10) (x := nI 0) (by decide)
  obtain ⟨h0, hh0⟩ : ∃ h0, sX h 12 0 10 (nI 0) = h0 := ⟨_, rfl⟩
  rw [hh0] at a0
  obtain ⟨c0, b0, b1, b2'⟩ := a0.2.2.2.2.2.2.2.1
  have NO : agB g x = false → WP alM mX12_again (k + 1) (fun v h' => v = vI (b2 (agB g x)) ∧ MI B h' (nAgain g x)) 36 [none, none, none] [] h0 := by
    intro hno
    refine wp_at tX12_again [] 10 36 okM kX12_again ⟨Or.inl rfl, by rw [hno]; rfl, ?_⟩
    unfold nAgain
    split
    next c =>
      unfold agB at hno
      rw [c, Bool.true_and] at hno
      cases hk : gK g x.toNatClampNeg with
      | none => exact a0
      | some s => rw [hk] at hno; cases hno
    next => exact a0
  refine ct_vc tX12_again [(36, [false, false, false]), (40, [true, true, true])] 40 okM kX12_again rfl ?_
  refine ⟨_, c_min, ?_⟩
  rintro v h1 ⟨rfl, rfl⟩
  rw [in01]
  refine ⟨fun c => by rw [hh0]; exact NO (by unfold agB; rw [b2_0.mp c]; rfl), fun c => ?_⟩
  have c' := b2_n0.mp c
  obtain ⟨j, hj, rfl⟩ := okS_get c'
  have eA : agB g (nI j) = (gK g j).isSome := by unfold agB; rw [c', nI_clamp (by omega)]; rfl
  refine ⟨ix1 2 hj, ?_⟩
  rw [hh0, nI_clamp (show j < 2 ^ 31 by omega)]
  cases hk : gK g j with
  | none =>
    rw [hk] at eA
    refine ⟨fun _ => NO eA, fun c2 => ⟨ix1 2 hj, ?_⟩⟩
    rw [nI_clamp (show j < 2 ^ 31 by omega)]
    refine ⟨fun c3 => ?_, fun _ => NO eA⟩
    exfalso
    rcases (b2' j hj).2 hk with q | ⟨c1, q1, q2⟩
    · exact c2 q
    · have c3' : h0.1 60 0 j = h0.1 12 0 45 := c3
      rw [q2, b1] at c3'
      have := nI_inj (by omega) (by omega) c3'
      omega
  | some s =>
    rw [hk] at eA
    obtain ⟨k1, k2, k3⟩ := (b2' j hj).1 s hk
    refine ⟨fun c2 => absurd (show h0.1 59 0 j = 0 from c2) (by rw [k1]; decide), fun _ => ⟨ix1 2 hj, ?_⟩⟩
    rw [nI_clamp (show j < 2 ^ 31 by omega)]
    refine ⟨fun _ => ?_, fun c3 => absurd (k2.trans b1.symm) c3⟩
    have L : ∀ t, t ≤ 47 → WP alM mX12_again (k + 1) (fun v h' => v = vI (b2 (agB g (nI j))) ∧ MI B h' (nAgain g (nI j))) 40 [some (vR 12 0), some (vI (nI j)), some (vI (nI t))] [] (sV h0 40 0 (cpA (h0.1 40 0) 0 (mS s) t)) := by
      refine loop_up 47 ?_ (fun t ht ih => ?_)
      · have E : WP alM mX12_again (k + 1) (fun v h' => v = vI (b2 (agB g (nI j))) ∧ MI B h' (nAgain g (nI j))) 69 [some (vR 12 0), none, none] [] (sV h0 40 0 (mS s)) := by
          have e2 : nAgain g (nI j) = uP (uS g s) [] := by unfold nAgain; rw [if_pos c', nI_clamp (by omega), hk]
          refine wp_at tX12_again [] 20 69 okM kX12_again ⟨Or.inr rfl, by rw [eA]; rfl, ?_⟩
          rw [e2]
          refine a0.nw.pst (g := uS g s) (Fm.rf.sF (by simp)) ⟨by rw [rdX, if_pos (by simp)]; rfl, fun q t hq => ?_⟩
          have hq' : ([] : List Sta)[q]? = some t := hq
          simp at hq'
        refine wp_at tX12_again [(69, [true, false, false])] 20 40 okM kX12_again ⟨fun _ => ?_, fun c => absurd (nI_le (Nat.le_refl 47) (by omega)) c⟩
        refine wp_eqv (h' := sV h0 40 0 (mS s)) (eqv_V (q := (0, 47, 0, 0, 0, 0)) rfl (fun q hq => ?_)) E
        unfold cpA
        have hq' : q < 47 := hq
        rw [if_pos (by omega), Nat.sub_zero]
      · rw [← nI_add t 1] at ih
        have ei : nI 47 * nI j + nI t = nI (47 * j + t) := by rw [nI_mul, nI_add]
        refine wp_at tX12_again [(40, [true, true, true])] 40 40 okM kX12_again ⟨fun c => absurd c (nI_ge ht (by omega)), fun _ => ⟨by rw [ei]; exact ix1 94 (by omega), ix1 47 ht, ?_⟩⟩
        rw [ei, nI_clamp (show 47 * j + t < 2 ^ 31 by omega), nI_clamp (show t < 2 ^ 31 by omega), rdV, if_neg (by simp), k3 t ht, sV_sX]
        have := cpA_s (f := h0.1 40 0) (q := 0) (src := mS s) (t := t)
        rw [Nat.zero_add] at this
        rw [this]
        exact ih
    have := L 0 (Nat.zero_le _)
    rw [cpA_0, sV_id] at this
    exact this
theorem m_Purse {B k : Nat} {h : Hp} {g : GS} {x : Int32} (a : MI B h g) : Ct alM mX12_purse (k + 1) [vR 12 0, vI x] h (fun v h' => v = vI (aPurse g x) ∧ MI B h' g) := by
  have a0 := a.fld (j := 10) (x := nI 0) (by decide)
  refine ct_vc tX12_purse [] 40 okM kX12_purse rfl ?_
  refine ⟨_, c_min, ?_⟩
  rintro v h1 ⟨rfl, rfl⟩
  rw [in03]
  unfold aPurse
  refine ⟨fun c => ⟨?_, a0⟩, fun c => ?_⟩
  · rw [if_neg (by rw [b2_0.mp c]; decide)]
  · have c' := b2_n0.mp c
    obtain ⟨j, hj, rfl⟩ := hasN_get c' (by omega)
    rw [if_pos c']
    refine ⟨ixN 47 (by omega), ?_, a0⟩
    rw [ixC (by omega), a0.1.1, mS_pu hj, nI_clamp (by omega)]
theorem MI.swo {B : Nat} {h : Hp} {g : GS} {x : Int32} (a : MI B h g) : MI B (sX h 12 0 5 x) (uW g x) :=
  a.with (S := []) (F := [5]) (fun k i n _ => by rw [sX_row, if_neg (fun z => n (by rw [z.1, z.2]))]) (fun j n => by rw [rdX, if_neg (fun z => n (by rw [z.2.2]; simp))]) ⟨rfl, rfl⟩ (Or.inr ⟨by rw [sX_row, if_neg (by simp)]; exact a.1.1, by rw [rdX, if_pos (by simp)]⟩) (Or.inl ⟨by decide, by decide, rfl⟩) (Or.inl ⟨by decide, by decide, rfl⟩) (Or.inl ⟨by decide, by decide, rfl⟩) (Or.inl ⟨rfl, by decide, rfl⟩) (Or.inl ⟨by decide, by decide, by decide, rfl⟩) (Or.inl ⟨by decide, by decide, rfl⟩) (Or.inl ⟨by decide, by decide, by decide, by decide, rfl⟩) (Or.inl ⟨by decide, by decide, rfl⟩) (Or.inl ⟨by decide, by decide, by decide, rfl⟩)
theorem m_Set {B k : Nat} {h : Hp} {g : GS} {w v : Int32} (a : MI B h g) : Ct alM mX12_set (k + 1) [vR 12 0, vI w, vI v] h (fun x h' => x = vI (aSet g w v) ∧ MI B h' (nSet g w v)) := by
  have a0 := a.fld (j := 10) (x := nI 0) (by decide)
  obtain ⟨h0, hh0⟩ : ∃ h0, sX h 12 0 10 (nI 0) = h0 := ⟨_, rfl⟩
  rw [hh0] at a0
  have in9 : ∀ {lo hi}, inB lo hi v = true ↔ lo ≤ v ∧ v ≤ hi := fun {lo hi} => ⟨fun q => ⟨of_decide_eq_true (and3 q).1, of_decide_eq_true (and3 q).2⟩, fun q => by unfold inB; rw [dT q.1, dT q.2]; rfl⟩
  have NO : ¬ (w = nI 0 ∧ nI 1 ≤ v ∧ v ≤ nI 9) → ¬ (w = nI 1 ∧ nI 0 ≤ v ∧ v ≤ nI 9999) → WP alM mX12_set (k + 1) (fun x h' => x = vI (aSet g w v) ∧ MI B h' (nSet g w v)) 38 [none, none, none, none] [] h0 := by
    intro n1 n2
    unfold aSet nSet
    rw [if_neg n1, if_neg n2, if_neg n1, if_neg n2]
    exact wp_at tX12_set [] 10 38 okM kX12_set ⟨rfl, a0⟩
  have Y0 : w = nI 0 ∧ nI 1 ≤ v ∧ v ≤ nI 9 → WP alM mX12_set (k + 1) (fun x h' => x = vI (aSet g w v) ∧ MI B h' (nSet g w v)) 40 [some (vR 12 0), some (vI w), some (vI v), none] [] h0 := by
    intro q
    unfold aSet nSet
    rw [if_pos q, if_pos q]
    refine wp_at tX12_set [] 40 40 okM kX12_set ⟨fun c => absurd q.1 c, fun _ => ⟨fun c => absurd q.1 c, fun _ => ⟨congrArg vI a0.1.2, a0.swo⟩⟩⟩
  have Y1 : w = nI 1 ∧ nI 0 ≤ v ∧ v ≤ nI 9999 → WP alM mX12_set (k + 1) (fun x h' => x = vI (aSet g w v) ∧ MI B h' (nSet g w v)) 40 [some (vR 12 0), some (vI w), some (vI v), none] [] h0 := by
    intro q
    have q0 : ¬ w = 0 := by rw [q.1]; decide
    have n1 : ¬ (w = nI 0 ∧ nI 1 ≤ v ∧ v ≤ nI 9) := fun z => q0 z.1
    unfold aSet nSet
    rw [if_neg n1, if_pos q, if_neg n1, if_pos q]
    refine wp_at tX12_set [] 40 40 okM kX12_set ⟨fun _ => ⟨ix1 47 (by omega), fun _ => ⟨ix1 47 (by omega), ?_, ?_⟩, fun c => absurd (nn c) q0⟩, fun c => absurd (nn c) q0⟩
    · rw [nI_clamp (by omega), a0.1.1]; rfl
    · rw [nI_clamp (by omega), sX_eq, a0.1.1, mS_u41]; exact a0.nw
  refine ct_vc tX12_set [(38, [false, false, false, false]), (40, [true, true, true, false])] 40 okM kX12_set rfl ?_
  refine ⟨fun c => ⟨fun c1 => ?_, fun c1 => ⟨_, c_min, ?_⟩⟩, fun c => ⟨_, c_min, ?_⟩⟩
  · rw [hh0]; exact NO (fun z => c z.1) (fun z => c1 z.1)
  · rintro x h1 ⟨rfl, rfl⟩
    rw [hh0]
    refine ⟨fun c2 => Y1 ⟨nn c1, in9.mp (b2_n0.mp c2)⟩, fun c2 => NO (fun z => c z.1) (fun z => ?_)⟩
    have := in9.mpr z.2
    rw [this] at c2
    exact absurd (nn c2) (by decide)
  · rintro x h1 ⟨rfl, rfl⟩
    rw [hh0]
    have w0 : w = nI 0 := nn c
    refine ⟨fun c2 => Y0 ⟨w0, in9.mp (b2_n0.mp c2)⟩, fun c2 => NO (fun z => ?_) (fun z => by rw [w0] at z; exact absurd z.1 (by decide))⟩
    have := in9.mpr z.2
    rw [this] at c2
    exact absurd (nn c2) (by decide)
