/-! the reference: numbers, a RULE's text -/
theorem sAM_at {h : Hp} {p q : Nat} : sAM (sAM h p) q = sAM h q := sX_sX
theorem ooD_48 {T : Nat → Int32} {n L p : Nat} : ooD T n L 48 10 p = tkD T n L (nI 0) (nI 9) p := rfl
theorem in_dig {h : Hp} {r n L p : Nat} (hb : ∀ j, bytK (h.1 43 r j)) : inB (nI 48) (nI 57) (pk (mT h r) n L p) = true ↔ ¬ (tkD (mT h r) n L (nI 0) (nI 9) p).1 = -(nI 1) := by
  rcases pkR (n := n) (L := L) (p := p) hb with e | ⟨v, hv, e, -⟩
  · have eo := tkD_inN (T := mT h r) (n := n) (L := L) (p := p) (a := 48) (m := 10) e (by omega)
    have eo' : tkD (mT h r) n L (nI 0) (nI 9) p = (-(nI 1), p) := eo
    rw [eo', e]
    exact ⟨fun w => absurd w (by decide), fun w => absurd rfl w⟩
  · have eo := tkD_in1 (T := mT h r) (n := n) (L := L) (p := p) (a := 48) (m := 10) e hv (by omega) (by omega) (by omega) (by omega)
    have e1 : 48 ≤ v ∧ v ≤ 57 → tkD (mT h r) n L (nI 0) (nI 9) p = (nI (v - 48), p + 1) := eo.1
    have e2 : ¬ (48 ≤ v ∧ v ≤ 57) → tkD (mT h r) n L (nI 0) (nI 9) p = (-(nI 1), p) := eo.2
    rw [e]
    by_cases c : 48 ≤ v ∧ v ≤ 57
    · rw [e1 c]
      exact ⟨fun _ => nI_nm1 (by omega), fun _ => inB_y (nI_nlt c.1 (by omega)) (nI_nlt c.2 (by omega))⟩
    · rw [e2 c]
      refine ⟨fun w => ?_, fun w => absurd rfl w⟩
      have w1 := (nI_leI (by omega) (by omega)).mp (of_decide_eq_true (and3 w).1)
      have w2 := (nI_leI (by omega) (by omega)).mp (of_decide_eq_true (and3 w).2)
      exact absurd ⟨w1, w2⟩ c
def nuP (h : Hp) (T : Nat → Int32) (n L m p : Nat) : AV → Hp → Prop := fun v h' => ((tkN T n L m p).1 = -(nI 1) ∧ v = vI (nI 0) ∧ h' = sX h 12 0 15 (nI p)) ∨ (¬ (tkN T n L m p).1 = -(nI 1) ∧ v = vI (tkN T n L m p).1 ∧ h' = sAM h (tkN T n L m p).2)
theorem c_mnumber {k r n L p m : Nat} {h : Hp} (t : TxM h r n L p) (hm : m ≤ 3) (hm1 : 1 ≤ m) : Ct alM mX12_number (k + 3) [vR 12 0, vI (nI m)] h (nuP h (mT h r) n L m p) := by
  have tb := t.2.2.2.2.2.2.2.2.2
  have n80 : n ≤ 80 := by have := t.2.2.2.2.2.2.1; split at this <;> omega
  refine ct_vc tX12_number [(11, [true, true, true, true])] 30 okM kX12_number rfl ?_
  refine ⟨_, c_moneOf t (by omega) (by omega) (by omega), ?_⟩
  rw [ooD_48]
  rintro v h1 (⟨c, rfl, rfl⟩ | ⟨c, rfl, rfl, c2⟩)
  · have eN := tkN_none (m := m) c
    show WP alM mX12_number (k + 3) _ 11 [some (vR 12 0), some (vI (nI m)), some (vI (nI 0)), some (vI (nI 1))] [] (sX h 12 0 15 (nI p))
    have hw : ¬ (sX h 12 0 15 (nI p)).1 12 0 15 = -(nI 1) := by
      rw [rdX, if_pos (by simp)]
      have := t.2.2.2.2.2.2.2.2.1
      rw [m1_nI]
      intro w
      have hn : nI p < 0 := by rw [w]; decide
      exact nI_pos (by omega) hn
    refine wp_at tX12_number [] 30 11 okM kX12_number ⟨fun _ => ?_, fun _ => ⟨_, c_mfine, ?_⟩⟩
    · exact Or.inl ⟨by rw [eN], rfl, rfl⟩
    · rw [dF hw]
      rintro v h2 ⟨rfl, rfl⟩
      exact ⟨fun _ => Or.inl ⟨by rw [eN], rfl, rfl⟩, fun c => absurd rfl c⟩
  · have hlt := tkD_lt (lo := 0) (Or.inl rfl) c
    have hN1 : ¬ (tkN (mT h r) n L m p).1 = -(nI 1) := by
      obtain ⟨w, hw, e⟩ := tkN_d hm hm1 c
      rw [e]
      rw [m1_nI]
      intro q
      have hn : nI w < 0 := by rw [q]; decide
      exact nI_pos (by omega) hn
    have L0 : ∀ f i x q, i + f = m + 1 → 1 ≤ i → q ≤ p + i → (tkN (mT h r) n L m p) = tkR (mT h r) n L m f i x q → WP alM mX12_number (k + 3) (nuP h (mT h r) n L m p) 11 [some (vR 12 0), some (vI (nI m)), some (vI x), some (vI (nI i))] [] (sAM h q) := by
      intro f
      induction f with
      | zero =>
        intro i x q hi h1 hq e
        rw [tkR] at e
        refine wp_at tX12_number [] 30 11 okM kX12_number ⟨fun _ => ?_, fun c => absurd (nI_le (show m ≤ i by omega) (by omega)) c⟩
        refine Or.inr ⟨hN1, ?_, ?_⟩
        · rw [e]
        · rw [e]
      | succ f IH =>
        intro i x q hi h1 hq e
        have tq := t.at (show q ≤ 200 by omega)
        have eT : mT (sAM h q) r = mT h r := mT_f
        rw [tkR] at e
        have OUT : (tkN (mT h r) n L m p) = (x, q) → nuP h (mT h r) n L m p (vI x) (sAM h q) := by
          intro e
          refine Or.inr ⟨hN1, ?_, ?_⟩
          · rw [e]
          · rw [e]
        refine wp_at tX12_number [(11, [true, true, true, true])] 60 11 okM kX12_number ⟨fun c => ?_, fun c => ⟨_, c_mfine, ?_⟩⟩
        · have c' : m ≤ i := (nI_leI (by omega) (by omega)).mp c
          rw [if_pos c'] at e
          exact OUT e
        · have c' : ¬ m ≤ i := fun w => c (nI_le w (by omega))
          rw [if_neg c'] at e
          rw [dT tq.2.2.2.2.2.1]
          rintro v h2 ⟨rfl, rfl⟩
          refine ⟨fun c => absurd c (by decide), fun _ => ⟨_, c_mhere tq, ?_⟩⟩
          rintro v h2 ⟨rfl, rfl⟩
          refine ⟨_, c_min, ?_⟩
          rintro v h2 ⟨rfl, rfl⟩
          have hd := in_dig (n := n) (L := L) (p := q) tq.2.2.2.2.2.2.2.2.2
          rw [eT] at hd ⊢
          refine ⟨fun c3 => ?_, fun c3 => ⟨_, c_moneOf tq (by omega) (by omega) (by omega), ?_⟩⟩
          · have : (tkD (mT h r) n L (nI 0) (nI 9) q).1 = -(nI 1) := Classical.byContradiction fun w => by have := hd.mpr w; rw [this] at c3; exact absurd c3 (by decide)
            rw [if_pos this] at e
            exact OUT e
          · have c4 := hd.mp (b2_n0.mp c3)
            rw [eT, ooD_48]
            rw [if_neg c4, if_neg (by omega)] at e
            rintro v h3 (⟨c5, -⟩ | ⟨-, rfl, rfl, c6⟩)
            · exact absurd c5 c4
            · rw [sAM_at]
              rw [c6] at e
              have := IH (i + 1) _ (q + 1) (by omega) (by omega) (by omega) e
              rw [← nI_add i 1] at this
              have ec : nI 10 * x + ((tkD (mT h r) n L (nI 0) (nI 9) q).1 - nI (48 - 48)) = x * nI 10 + (tkD (mT h r) n L (nI 0) (nI 9) q).1 := by
                rw [Int32.mul_comm]
                congr 1
                show _ - nI 0 = _
                exact Int32.sub_zero _
              rw [← ec] at this
              exact this
    have e0 : (tkN (mT h r) n L m p) = tkR (mT h r) n L m m 1 ((tkD (mT h r) n L (nI 0) (nI 9) p).1 - nI (48 - 48)) (p + 1) := by
      unfold tkN
      rw [tkR, if_neg (by omega), if_neg c, if_pos rfl, c2]
      congr 1
      exact (Int32.sub_zero _).symm
    exact L0 m 1 _ (p + 1) (by omega) (by omega) (by omega) e0
theorem c_mnumberN {k : Nat} {h : Hp} {m : Int32} (t : ¬ h.1 12 0 15 = -(nI 1)) : Ct alM mX12_number (k + 3) [vR 12 0, vI m] h (Rd h (nI 0)) := by
  refine ct_vc tX12_number [] 60 okM kX12_number rfl ?_
  refine ⟨_, c_moneOfN t, ?_⟩
  rintro v h1 ⟨rfl, rfl⟩
  refine ⟨fun _ => ⟨rfl, rfl⟩, fun _ => ⟨_, c_mfine, ?_⟩⟩
  rw [dF t]
  rintro v h2 ⟨rfl, rfl⟩
  exact ⟨fun _ => ⟨rfl, rfl⟩, fun c => absurd rfl c⟩
/-- letters -/
def ltX (x : Int32) : Int32 := if x = nI 115 then nI 0 else if x = nI 104 then nI 1 else if x = nI 119 then nI 2 else if x = nI 102 then nI 3 else if x = nI 108 then nI 4 else if x = nI 97 then nI 5 else if x = nI 101 then nI 6 else if x = nI 100 then nI 7 else -(nI 1)
theorem c_letterOf {k : Nat} {h : Hp} {x : Int32} : Ct alM mX12_letterOf k [vI x] h (Rd h (ltX x)) := by
  refine ct_vc tX12_letterOf [] 60 okM kX12_letterOf rfl ?_
  unfold ltX
  refine ⟨fun c => ⟨fun c2 => ⟨fun c3 => ⟨fun c4 => ⟨fun c5 => ⟨fun c6 => ⟨fun c7 => ⟨fun c8 => ⟨?_, rfl⟩, fun c8 => ⟨?_, rfl⟩⟩, fun c7 => ⟨?_, rfl⟩⟩, fun c6 => ⟨?_, rfl⟩⟩, fun c5 => ⟨?_, rfl⟩⟩, fun c4 => ⟨?_, rfl⟩⟩, fun c3 => ⟨?_, rfl⟩⟩, fun c2 => ⟨?_, rfl⟩⟩, fun c => ⟨?_, rfl⟩⟩
  · rw [if_neg c, if_neg c2, if_neg c3, if_neg c4, if_neg c5, if_neg c6, if_neg c7, if_neg c8]
  · rw [if_neg c, if_neg c2, if_neg c3, if_neg c4, if_neg c5, if_neg c6, if_neg c7, if_pos (nn c8)]
  · rw [if_neg c, if_neg c2, if_neg c3, if_neg c4, if_neg c5, if_neg c6, if_pos (nn c7)]
  · rw [if_neg c, if_neg c2, if_neg c3, if_neg c4, if_neg c5, if_pos (nn c6)]
  · rw [if_neg c, if_neg c2, if_neg c3, if_neg c4, if_pos (nn c5)]
  · rw [if_neg c, if_neg c2, if_neg c3, if_pos (nn c4)]
  · rw [if_neg c, if_neg c2, if_pos (nn c3)]
  · rw [if_neg c, if_pos (nn c2)]
  · rw [if_pos (nn c)]
theorem ltX_cs {x : Int32} : (isLt x = true ∧ ∃ j, j < 8 ∧ ltX x = nI j) ∨ (¬ isLt x = true ∧ ltX x = -(nI 1)) := by
  unfold ltX
  by_cases c1 : x = nI 115
  · subst c1; exact Or.inl ⟨by decide, 0, by decide, rfl⟩
  by_cases c2 : x = nI 104
  · subst c2; exact Or.inl ⟨by decide, 1, by decide, rfl⟩
  by_cases c3 : x = nI 119
  · subst c3; exact Or.inl ⟨by decide, 2, by decide, rfl⟩
  by_cases c4 : x = nI 102
  · subst c4; exact Or.inl ⟨by decide, 3, by decide, rfl⟩
  by_cases c5 : x = nI 108
  · subst c5; exact Or.inl ⟨by decide, 4, by decide, rfl⟩
  by_cases c6 : x = nI 97
  · subst c6; exact Or.inl ⟨by decide, 5, by decide, rfl⟩
  by_cases c7 : x = nI 101
  · subst c7; exact Or.inl ⟨by decide, 6, by decide, rfl⟩
  by_cases c8 : x = nI 100
  · subst c8; exact Or.inl ⟨by decide, 7, by decide, rfl⟩
  right
  rw [if_neg c1, if_neg c2, if_neg c3, if_neg c4, if_neg c5, if_neg c6, if_neg c7, if_neg c8]
  refine ⟨?_, rfl⟩
  unfold isLt
  rw [dF c1, dF c2, dF c3, dF c4, dF c5, dF c6, dF c7, dF c8]
  decide
