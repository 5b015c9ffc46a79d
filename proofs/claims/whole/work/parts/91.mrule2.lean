/-! the reference: rule -/
theorem c_wasRightN {k : Nat} {h : Hp} (t : ¬ h.1 12 0 15 = -(nI 1)) : Ct alM mX12_wasRight (k + 2) [vR 12 0] h (Rd h (nI 0)) := by
  have E : WP alM mX12_wasRight (k + 2) (Rd h (nI 0)) 19 [some (vR 12 0)] [] h := by
    refine wp_at tX12_wasRight [] 20 19 okM kX12_wasRight ⟨_, c_mfine, ?_⟩
    rintro v h1 ⟨rfl, rfl⟩
    rw [dF t]
    exact ⟨Or.inl rfl, rfl, rfl⟩
  refine ct_vc tX12_wasRight [(19, [true])] 20 okM kX12_wasRight rfl ⟨fun _ => E, fun _ => ⟨_, c_mfault, ?_⟩⟩
  rw [if_neg t]
  rintro v h1 rfl
  exact E
theorem c_wasRightY {k p n : Nat} {h : Hp} (t : h.1 12 0 15 = -(nI 1)) (e14 : h.1 12 0 14 = nI p) (e12 : h.1 12 0 12 = nI n) (hp : p < 2 ^ 31) (hn : n < 2 ^ 31) : Ct alM mX12_wasRight (k + 2) [vR 12 0] h (Rt (b2 (decide (n ≤ p))) (if n ≤ p then h else sX h 12 0 15 (nI p))) := by
  refine ct_vc tX12_wasRight [(19, [true])] 20 okM kX12_wasRight rfl ⟨fun c => ?_, fun c => ⟨_, c_mfault, ?_⟩⟩
  · rw [e14, e12] at c
    have c := (nI_leI hn hp).mp c
    refine wp_at tX12_wasRight [] 20 19 okM kX12_wasRight ⟨_, c_mfine, ?_⟩
    rintro v h1 ⟨rfl, rfl⟩
    rw [dT t, dT c, if_pos c]
    exact ⟨Or.inr rfl, rfl, rfl⟩
  · rw [e14, e12] at c
    have c : ¬ n ≤ p := fun w => c ((nI_leI hn hp).mpr w)
    rw [if_pos t, e14]
    rintro v h1 rfl
    refine wp_at tX12_wasRight [] 20 19 okM kX12_wasRight ⟨_, c_mfine, ?_⟩
    rintro v h1 ⟨rfl, rfl⟩
    have ne : ¬ (sX h 12 0 15 (nI p)).1 12 0 15 = -(nI 1) := by
      rw [rdX, if_pos (by simp)]
      intro w
      have := congrArg Int32.toInt w
      rw [nI_toInt hp, show (-(nI 1)).toInt = -1 by decide] at this
      omega
    rw [dF ne, dF c, if_neg c]
    exact ⟨Or.inl rfl, rfl, rfl⟩
theorem c_beginText {k n : Nat} {h : Hp} {L : Int32} (e7 : h.1 12 0 7 = nI n) : Ct alM mX12_beginText (k + 1) [vR 12 0, vI L] h (Rv (sX (bgH h 0 (nI n) L) 12 0 7 (nI 0))) := by
  refine ct_vc tX12_beginText [] 20 okM kX12_beginText rfl ⟨_, ct_cv (c_begin (r := 0) (n := nI n) (L := L)) (congrArg (fun x => [vR 12 0, vR 43 0, vI x, vI L]) e7) rfl, ?_⟩
  rintro v h1 rfl
  rfl
theorem TxM.fld {h : Hp} {r n L p j : Nat} {x : Int32} (t : TxM h r n L p) (hj : j ≠ 12 ∧ j ≠ 13 ∧ j ≠ 14 ∧ j ≠ 15) : TxM (sX h 12 0 j x) r n L p := by
  obtain ⟨q1, q2, q3, q4, q5, q6, q7, q8, q9, q10⟩ := t
  refine ⟨q1, q2, ?_, ?_, ?_, ?_, q7, q8, q9, fun i => ?_⟩
  · rw [rdX, if_neg (by simp; omega)]; exact q3
  · rw [rdX, if_neg (by simp; omega)]; exact q4
  · rw [rdX, if_neg (by simp; omega)]; exact q5
  · rw [rdX, if_neg (by simp; omega)]; exact q6
  · rw [sX_row, if_neg (by simp)]; exact q10 i
def rrF : List Nat := [7, 12, 13, 14, 15, 20]
def rrP (h : Hp) (n : Nat) : AV → Hp → Prop := fun v h' => Fm [] rrF h h' ∧ h'.1 12 0 7 = nI 0 ∧ ((∃ c, rdO (mT h 0) n = some c ∧ v = vI (nI 1)) ∨ (rdO (mT h 0) n = none ∧ v = vI (nI 0) ∧ h'.1 12 0 15 = nI (rdR (mT h 0) n).1))
theorem c_readRule {k n : Nat} {h : Hp} (e7 : h.1 12 0 7 = nI n) (hn : n ≤ 80) (hb : ∀ j, bytK (h.1 43 0 j)) : Ct alM mX12_readRule (k + 301) [vR 12 0] h (rrP h n) := by
  refine ct_vc tX12_readRule [(24, [true])] 30 okM kX12_readRule rfl ⟨_, c_beginText e7, ?_⟩
  rintro v h1 rfl
  obtain ⟨h2, hh2⟩ : ∃ h2, h2 = sX (sX (bgH h 0 (nI n) (nI 40)) 12 0 7 (nI 0)) 12 0 20 (nI 0) := ⟨_, rfl⟩
  have t2 : TxM h2 0 n 40 0 := by
    rw [hh2]
    exact ((bgH_t (r := 0) (L := 40) (by omega) (by simpa using hn) (by omega) hb).fld (by omega)).fld (by omega)
  have T2 : mT h2 0 = mT h 0 := by rw [hh2, mT_f, mT_f, bgH_T]
  have f2 : Fm [] rrF h h2 := by
    rw [hh2]
    exact ((bgH_f Fm.rf (by simp [rrF]) (by simp [rrF]) (by simp [rrF]) (by simp [rrF])).sF (by simp [rrF])).sF (by simp [rrF])
  have e72 : h2.1 12 0 7 = nI 0 := by rw [hh2, rdX, if_neg (by simp), rdX, if_pos (by simp)]
  have e20 : h2.1 12 0 20 = nI 0 := by rw [hh2, rdX, if_pos (by simp)]
  have e12 : h2.1 12 0 12 = nI n := t2.2.2.1
  have e14 : h2.1 12 0 14 = nI 0 := t2.2.2.2.2.1
  have e15 : h2.1 12 0 15 = -(nI 1) := t2.2.2.2.2.2.1
  refine ⟨Or.inl rfl, fun c => ?_, fun c => ?_⟩
  · have c : (sX (sX (bgH h 0 (nI n) (nI 40)) 12 0 7 (nI 0)) 12 0 20 (nI 0)).1 12 0 12 ≤ nI 0 := c
    rw [← hh2, e12] at c
    have n0 : n = 0 := by have := (nI_leI (by omega) (by omega)).mp c; omega
    show WP alM mX12_readRule (k + 301) (rrP h n) 24 [some (vR 12 0)] [] (sX (sX (bgH h 0 (nI n) (nI 40)) 12 0 7 (nI 0)) 12 0 20 (nI 0))
    rw [← hh2]
    refine wp_at tX12_readRule [] 20 24 okM kX12_readRule ⟨_, c_wasRightY e15 e14 e12 (by omega) (by omega), ?_⟩
    rw [dT (show n ≤ 0 by omega), if_pos (show n ≤ 0 by omega)]
    rintro v h3 ⟨rfl, rfl⟩
    refine ⟨Or.inr rfl, f2, e72, Or.inl ⟨stdC, ?_, rfl⟩⟩
    rw [n0]; exact rdO_0
  · have c : ¬ (sX (sX (bgH h 0 (nI n) (nI 40)) 12 0 7 (nI 0)) 12 0 20 (nI 0)).1 12 0 12 ≤ nI 0 := c
    rw [← hh2, e12] at c
    have n0 : ¬ n = 0 := fun w => c (by rw [w]; exact Int32.le_refl _)
    rw [← hh2]
    have ask : Ask h2 (fun _ => nI 0) := ⟨Or.inl e20, fun w => by rw [e20] at w; exact absurd w (by decide)⟩
    have hd := c_held t2 ask 4 (by omega) (k + 300) 0 (by omega) (by omega)
    rw [sAM_same t2, T2] at hd
    refine ⟨_, hd, ?_⟩
    have eR : pLv (mT h 0) n 40 (inn (mT h 0) n 40 4) 3 0 = rdR (mT h 0) n := by
      unfold rdR rdT rdn
      rw [if_neg n0, if_neg n0, pRl_eq]
    have eO : rdO (mT h 0) n = if n ≤ (rdR (mT h 0) n).1 then (rdR (mT h 0) n).2 else none := by
      unfold rdO
      rw [show rdn n = n from if_neg n0]
    rw [eR]
    have r40 := rdR_40 (T := mT h 0) (n := n)
    have f14 : ∀ q, Fm [] rrF h (sAM h2 q) := fun q => f2.sF (by simp [rrF])
    rintro v h3 ⟨y, rfl, ⟨cc, hc, rfl, -⟩ | ⟨hc, q, rfl⟩⟩
    · refine wp_at tX12_readRule [] 20 24 okM kX12_readRule ⟨_, c_wasRightY (p := (rdR (mT h 0) n).1) (n := n) (by rw [rdX, if_neg (by simp)]; exact e15) (by rw [rdX, if_pos (by simp)]) (by rw [rdX, if_neg (by simp)]; exact e12) (by omega) (by omega), ?_⟩
      rintro v h4 ⟨rfl, rfl⟩
      refine ⟨b2_01 _, ?_⟩
      by_cases w : n ≤ (rdR (mT h 0) n).1
      · rw [if_pos w] at eO
        rw [dT w, if_pos w]
        exact ⟨f14 _, by rw [rdX, if_neg (by simp)]; exact e72, Or.inl ⟨cc, by rw [eO]; exact hc, rfl⟩⟩
      · rw [if_neg w] at eO
        rw [dF w, if_neg w]
        exact ⟨(f14 _).sF (by simp [rrF]), by rw [rdX, if_neg (by simp), rdX, if_neg (by simp)]; exact e72, Or.inr ⟨eO, rfl, by rw [rdX, if_pos (by simp)]⟩⟩
    · refine wp_at tX12_readRule [] 20 24 okM kX12_readRule ⟨_, c_wasRightN (nfn (by omega)), ?_⟩
      rintro v h4 ⟨rfl, rfl⟩
      refine ⟨Or.inl rfl, (f14 _).sF (by simp [rrF]), by rw [rdX, if_neg (by simp), rdX, if_neg (by simp)]; exact e72, Or.inr ⟨?_, rfl, by rw [rdX, if_pos (by simp)]⟩⟩
      rw [eO, hc]
      split <;> rfl
theorem MI.txt {B : Nat} {h h' : Hp} {g : GS} {T : Nat → Int32} {F : List Nat} (a : MI B h g) (f : Fm [] F h h') (hF : ∀ x, x ∈ F → x = 7 ∨ x ∈ scI) (e : h'.1 12 0 7 = nI 0) : MI B h' (uT g (0, T)) := by
  have f := f.mo (S := []) (F := 7 :: scI) (by simp) (fun x hx => by rcases hF x hx with r | r; exact r ▸ List.mem_cons_self; exact List.mem_cons_of_mem _ r)
  exact a.with (S := []) (F := 7 :: scI) f.2.2.1 f.2.2.2 ⟨f.2.1 3 (by decide), f.2.1 4 (by decide)⟩ (Or.inl ⟨by decide, by decide, rfl, rfl⟩) (Or.inl ⟨by decide, by decide, rfl⟩) (Or.inl ⟨by decide, by decide, rfl⟩) (Or.inr ⟨e, fun j => by rw [f.2.2.1 43 0 (by simp) (by simp)]; exact a.2.2.2.1.2.1 j, fun j hj => absurd hj (Nat.not_lt_zero j)⟩) (Or.inl ⟨f.1, by decide, rfl⟩) (Or.inl ⟨by decide, by decide, by decide, rfl⟩) (Or.inl ⟨by decide, by decide, rfl⟩) (Or.inl ⟨by decide, by decide, by decide, by decide, rfl⟩) (Or.inl ⟨by decide, by decide, rfl⟩) (Or.inl ⟨by decide, by decide, by decide, rfl⟩)
theorem m_Rule {B k : Nat} {h : Hp} {g : GS} (a : MI B h g) (z : Sz g) : Ct alM mX12_rule (k + 302) [vR 12 0] h (fun v h' => v = vI (aRule g) ∧ MI B h' (nRule g)) := by
  have a0 := a.fld (j := 10) (x := nI 0) (by decide)
  obtain ⟨h0, hh0⟩ : ∃ h0, sX h 12 0 10 (nI 0) = h0 := ⟨_, rfl⟩
  rw [hh0] at a0
  have e7 : h0.1 12 0 7 = nI (gTn g) := a0.2.2.2.1.1
  have hn80 : gTn g ≤ 80 := z.2.2.1
  have hb := a0.2.2.2.1.2.1
  have hT := a0.2.2.2.1.2.2
  obtain ⟨cg1, cg2⟩ := rdO_cg (T := mT h0 0) (T' := gT g) (n := gTn g) hT
  refine ct_vc tX12_rule [(5, [true, false, false])] 20 okM kX12_rule rfl ?_
  show WP alM mX12_rule (k + 302) _ 5 [some (vR 12 0), none, none] [] (sX h 12 0 10 (nI 0))
  rw [hh0]
  refine wp_at tX12_rule [(26, [true, true, true])] 40 5 okM kX12_rule ⟨_, c_readRule e7 hn80 hb, ?_⟩
  rw [e7]
  rintro v h1 ⟨f1, e71, hr⟩
  rw [cg1, cg2] at hr
  have a1 : ∀ T, MI B h1 (uT g (0, T)) := fun T => a0.txt f1 (by simp [rrF, scI]) e71
  unfold aRule nRule
  rcases hr with ⟨c, hO, rfl⟩ | ⟨hO, rfl, e15⟩
  · rw [hO]
    have n40 : gTn g ≤ 40 := by
      have r40 := rdR_40 (T := gT g) (n := gTn g)
      by_cases w : gTn g = 0
      · omega
      · unfold rdO at hO
        rw [show rdn (gTn g) = gTn g from if_neg w] at hO
        by_cases w2 : gTn g ≤ (rdR (gT g) (gTn g)).1
        · omega
        · rw [if_neg w2] at hO; cases hO
    refine ⟨fun _ => ?_, fun w => absurd (show ¬ nI 1 = 0 by decide) w⟩
    have m6' := (a1 (rdT (gT g) (gTn g))).2.2.2.2.2.1
    have row0 : h1.1 43 0 = h0.1 43 0 := f1.2.2.1 43 0 (by simp) (by simp)
    have L : ∀ t, t ≤ gTn g → ∀ H, Fm [(43, 1)] [] h1 H → (∀ j, bytK (H.1 43 1 j)) → (∀ j, j < t → H.1 43 1 j = h1.1 43 0 j) → WP alM mX12_rule (k + 302) (fun v h' => v = vI (nI 0) ∧ MI B h' (uC (uT g (0, rdT (gT g) (gTn g))) c)) 26 [some (vR 12 0), some (vI (nI (gTn g))), some (vI (nI t))] [] H := by
      refine loop_up (gTn g) ?_ (fun t ht ih => ?_)
      · intro H fm e1 e2
        refine wp_at tX12_rule [] 20 26 okM kX12_rule ⟨fun _ => ⟨rfl, ?_⟩, fun w => absurd (nI_le (Nat.le_refl _) (by omega)) w⟩
        have fm' : Fm [(43, 1)] [19] h1 (sX H 12 0 19 (nI (gTn g))) := (fm.mo (by simp) (by simp)).sF (by simp)
        refine (a1 (rdT (gT g) (gTn g))).with (S := [(43, 1)]) (F := [19]) fm'.2.2.1 fm'.2.2.2 ⟨fm'.2.1 3 (by decide), fm'.2.1 4 (by decide)⟩ (Or.inl ⟨by decide, by decide, rfl, rfl⟩) (Or.inl ⟨by decide, by decide, rfl⟩) (Or.inl ⟨by decide, by decide, rfl⟩) (Or.inl ⟨by decide, by decide, rfl⟩) (Or.inl ⟨fm'.1, by decide, rfl⟩) (Or.inr ?_) (Or.inl ⟨by decide, by decide, rfl⟩) (Or.inl ⟨by decide, by decide, by decide, by decide, rfl⟩) (Or.inl ⟨by decide, by decide, rfl⟩) (Or.inl ⟨by decide, by decide, by decide, rfl⟩)
        refine ⟨by rw [fm'.2.1 3 (by decide)]; exact m6'.1, by rw [fm'.2.1 4 (by decide)]; exact m6'.2.1, fun j => by rw [sX_row, if_neg (by simp)]; exact e1 j, fun j => by rw [fm'.2.2.1 43 2 (by simp) (by simp)]; exact m6'.2.2.2.1 j, gTn g, n40, by rw [rdX, if_pos (by simp)], ?_⟩
        show rdO (mT (sX H 12 0 19 (nI (gTn g))) 1) (gTn g) = some c
        rw [← hO]
        refine (rdO_cg (fun j hj => ?_)).1
        rw [← hT j hj]
        unfold mT
        rw [sX_row, if_neg (by simp), e2 j hj, row0]
      · intro H fm e1 e2
        rw [← nI_add t 1] at ih
        have s3 : H.2.2 3 = 1 := by rw [fm.2.1 3 (by decide)]; exact m6'.1
        have r0 : H.1 43 0 = h1.1 43 0 := fm.2.2.1 43 0 (by simp) (by simp)
        refine wp_at tX12_rule [(26, [true, true, true])] 40 26 okM kX12_rule ⟨fun w => absurd w (nI_ge ht (by omega)), fun _ => ?_⟩
        refine ⟨ix1 80 (by omega), by rw [s3]; exact ix1 40 (by omega), ?_⟩
        rw [nI_clamp (by omega), s3, r0, nar_byte]
        have hby : bytK (h1.1 43 0 t) := by rw [row0]; exact hb t
        rw [hby]
        refine ih _ (fm.sX (by simp) (by decide)) (fun j => ?_) (fun j hj => ?_)
        · rw [rdX]
          by_cases w : j = t
          · subst w; rw [if_pos (by simp)]; exact hby
          · rw [if_neg (by simp [w])]; exact e1 j
        · rw [rdX]
          by_cases w : j = t
          · subst w; rw [if_pos (by simp)]
          · rw [if_neg (by simp [w])]; exact e2 j (by omega)
    exact L 0 (Nat.zero_le _) h1 Fm.rf (fun j => m6'.2.2.1 j) (fun j hj => by omega)
  · rw [hO]
    refine ⟨fun w => absurd rfl w, fun _ => ⟨?_, a1 _⟩⟩
    show vI (-(nI 1) - h1.1 12 0 15) = _
    rw [e15]
