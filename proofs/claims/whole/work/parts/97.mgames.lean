/-! the reference: games -/
def AdF (h H : Hp) (base : Nat) : Prop := Fm [(48, 0)] [14, 15] h H ∧ ∀ i, i < base → H.1 48 0 i = h.1 48 0 i
theorem TxM.st48 {h : Hp} {r n L p j : Nat} {x : Int32} (t : TxM h r n L p) : TxM (sX h 48 0 j x) r n L p := by
  obtain ⟨q1, q2, q3, q4, q5, q6, q7, q8, q9, q10⟩ := t
  refine ⟨q1, q2, ?_, ?_, ?_, ?_, q7, q8, q9, fun i => ?_⟩
  · rw [rdX, if_neg (by simp)]; exact q3
  · rw [rdX, if_neg (by simp)]; exact q4
  · rw [rdX, if_neg (by simp)]; exact q5
  · rw [rdX, if_neg (by simp)]; exact q6
  · rw [sX_row, if_neg (by simp)]; exact q10 i
theorem AdF.sto {h H : Hp} {base j : Nat} {x : Int32} (f : AdF h H base) (hj : base ≤ j) : AdF h (sX H 48 0 j x) base := ⟨f.1.sX (by simp) (by decide), fun i hi => by rw [rdX, if_neg (by simp; omega)]; exact f.2 i hi⟩
theorem AdF.fld {h H : Hp} {base j : Nat} {x : Int32} (f : AdF h H base) (hj : j = 14 ∨ j = 15) : AdF h (sX H 12 0 j x) base := ⟨f.1.sF (by simp; omega), fun i hi => by rw [rdX, if_neg (by simp)]; exact f.2 i hi⟩
def raP (h : Hp) (n p base : Nat) : AV → Hp → Prop := fun _ H => AdF h H base ∧ ((∃ x, (act1 (mT h 0) n p).2 = some x ∧ TxM H 0 n 60 (act1 (mT h 0) n p).1 ∧ H.1 48 0 base = x.1 ∧ H.1 48 0 (base + 1) = x.2.1 ∧ (x.1 = nI 102 → H.1 48 0 (base + 2) = x.2.2)) ∨ ((act1 (mT h 0) n p).2 = none ∧ (act1 (mT h 0) n p).1 ≤ 90 ∧ H.1 12 0 15 = nI (act1 (mT h 0) n p).1))
theorem c_readAct {k n p base : Nat} {h : Hp} (t : TxM h 0 n 60 p) (hp : p ≤ 80) (hb : p < 60 → base + 3 ≤ 240) : Ct alM mX12_readAct (k + 4) [vR 12 0, vI (nI base)] h (raP h n p base) := by
  have f0 : AdF h h base := ⟨Fm.rf, fun _ _ => rfl⟩
  obtain ⟨c, hc⟩ : ∃ c, c = pk (mT h 0) n 60 p := ⟨_, rfl⟩
  have e14 := t.2.2.2.2.1
  have e15 := t.2.2.2.2.2.1
  have GO : acK c = true → WP alM mX12_readAct (k + 4) (raP h n p base) 38 [some (vR 12 0), some (vI (nI base)), some (vI c)] [] h := by
    intro hk
    have p60 : p < 60 := (pkP (show pk (mT h 0) n 60 p ≠ -(nI 1) from fun w => by rw [hc, w] at hk; exact absurd hk (by decide))).2
    have hb' := hb p60
    obtain ⟨H1, hH1⟩ : ∃ H1, H1 = sX (sAM h (p + 1)) 48 0 base c := ⟨_, rfl⟩
    have t1 : TxM H1 0 n 60 (p + 1) := by rw [hH1]; exact (t.at (by omega)).st48
    have T1 : mT H1 0 = mT h 0 := by rw [hH1]; exact (mT_cg (by rw [sX_row, if_neg (by simp)])).trans mT_f
    have f1 : AdF h H1 base := by rw [hH1]; exact (f0.fld (Or.inl rfl)).sto (Nat.le_refl _)
    have v1 : H1.1 48 0 base = c := by rw [hH1, rdX, if_pos (by simp)]
    have eA : act1 (mT h 0) n p = (if (acD (mT h 0) n p).1 = -(nI 1) then ((acD (mT h 0) n p).2, none) else if c = nI 102 then (if (acE (mT h 0) n p).1 = -(nI 1) then ((acE (mT h 0) n p).2, none) else ((acE (mT h 0) n p).2, some (c, (acD (mT h 0) n p).1, (acE (mT h 0) n p).1))) else ((acD (mT h 0) n p).2, some (c, (acD (mT h 0) n p).1, nI 0))) := by
      unfold act1
      rw [← hc, if_pos hk]
    have S89 : ∀ H y, ((¬ (acD (mT h 0) n p).1 = -(nI 1) ∧ y = (acD (mT h 0) n p).1 ∧ H = sAM H1 (p + 2)) ∨ ((acD (mT h 0) n p).1 = -(nI 1) ∧ H = sX H1 12 0 15 (nI (p + 1)))) → WP alM mX12_readAct (k + 4) (raP h n p base) 89 [some (vR 12 0), some (vI (nI base)), some (vI c)] [vI y, vI (nI base + nI 1), vR 48 0] H := by
      intro H y cs
      refine wp_at tX12_readAct [] 40 89 okM kX12_readAct ⟨by rw [nI_add]; exact ix1 240 (by omega), ?_⟩
      rw [nI_add, nI_clamp (show base + 1 < 2 ^ 31 by omega)]
      rcases cs with ⟨d1, rfl, rfl⟩ | ⟨d1, rfl⟩
      · have d2 := (acD_ok d1).1
        have d3 : (acD (mT h 0) n p).2 = p + 2 := by rw [d2]
        rw [if_neg d1] at eA
        obtain ⟨H2, hH2⟩ : ∃ H2, H2 = sX (sAM H1 (p + 2)) 48 0 (base + 1) (acD (mT h 0) n p).1 := ⟨_, rfl⟩
        rw [← hH2]
        have t2 : TxM H2 0 n 60 (p + 2) := by rw [hH2]; exact (t1.at (by omega)).st48
        have T2 : mT H2 0 = mT h 0 := by rw [hH2]; exact ((mT_cg (by rw [sX_row, if_neg (by simp)])).trans mT_f).trans T1
        have f2 : AdF h H2 base := by rw [hH2]; exact (f1.fld (Or.inl rfl)).sto (by omega)
        have v20 : H2.1 48 0 base = c := by rw [hH2, rdX, if_neg (by simp), rdX, if_neg (by simp)]; exact v1
        have v21 : H2.1 48 0 (base + 1) = (acD (mT h 0) n p).1 := by rw [hH2, rdX, if_pos (by simp)]
        refine ⟨fun c1 => ?_, fun c1 => ⟨_, c_moneOf (a := 48) (m := 10) t2 (by omega) (by omega) (by omega), ?_⟩⟩
        · rw [if_neg c1] at eA
          refine ⟨f2, Or.inl ⟨_, by rw [eA], by rw [eA, d3]; exact t2, v20, v21, fun w => absurd w c1⟩⟩
        · have c1 : c = nI 102 := nn c1
          rw [if_pos c1] at eA
          have eE : ooD (mT H2 0) n 60 48 10 (p + 2) = acE (mT h 0) n p := by rw [T2]; unfold acE ooD; rw [d3]
          rw [eE]
          rintro v H3 (⟨h1, rfl, rfl⟩ | ⟨h1, rfl, rfl, h2⟩)
          · rw [if_pos h1] at eA
            refine ⟨by rw [nI_add]; exact ix1 240 (by omega), ?_⟩
            have e2 := acE_no h1 d1
            refine ⟨(f2.fld (Or.inr rfl)).sto (by rw [nI_add, nI_clamp (by omega)]; omega), Or.inr ⟨by rw [eA], by rw [eA, e2]; omega, ?_⟩⟩
            rw [rdX, if_neg (by simp), rdX, if_pos (by simp), eA, e2]
          · rw [if_neg h1] at eA
            refine ⟨by rw [nI_add]; exact ix1 240 (by omega), ?_⟩
            have e3 : (acE (mT h 0) n p).2 = p + 3 := h2
            have e4 : (acE (mT h 0) n p).1 - nI (48 - 48) = (acE (mT h 0) n p).1 := Int32.sub_zero _
            rw [nI_add, nI_clamp (by omega), e4]
            refine ⟨(f2.fld (Or.inl rfl)).sto (by omega), Or.inl ⟨_, by rw [eA], by rw [eA, e3]; exact (t2.at (by omega)).st48, ?_, ?_, fun _ => ?_⟩⟩
            · rw [rdX, if_neg (by simp), rdX, if_neg (by simp)]; exact v20
            · rw [rdX, if_neg (by simp), rdX, if_neg (by simp)]; exact v21
            · rw [rdX, if_pos (by simp)]
      · rw [if_pos d1, acD_no d1] at eA
        have bd : ∀ H3, AdF h H3 base → H3.1 12 0 15 = nI (p + 1) → raP h n p base (vI 0) H3 := fun H3 f e => ⟨f, Or.inr ⟨by rw [eA], by rw [eA]; omega, by rw [eA]; exact e⟩⟩
        have f2 : AdF h (sX (sX H1 12 0 15 (nI (p + 1))) 48 0 (base + 1) y) base := (f1.fld (Or.inr rfl)).sto (by omega)
        have e2 : (sX (sX H1 12 0 15 (nI (p + 1))) 48 0 (base + 1) y).1 12 0 15 = nI (p + 1) := by rw [rdX, if_neg (by simp), rdX, if_pos (by simp)]
        refine ⟨fun _ => bd _ f2 e2, fun _ => ⟨_, c_moneOfN (by rw [e2]; exact nI_nm1 (by omega)), ?_⟩⟩
        rintro v H3 ⟨rfl, rfl⟩
        refine ⟨by rw [nI_add]; exact ix1 240 (by omega), ?_⟩
        exact bd _ (f2.sto (by rw [nI_add, nI_clamp (by omega)]; omega)) (by rw [rdX, if_neg (by simp)]; exact e2)
    refine wp_at tX12_readAct [(89, [true, true, true])] 40 38 okM kX12_readAct ⟨ix1 240 (by omega), ?_⟩
    have eH : sX (sX h 12 0 14 (h.1 12 0 14 + nI 1)) 48 0 (nI base).toNatClampNeg c = H1 := by rw [e14, nI_add, nI_clamp (by omega), hH1]
    rw [eH]
    refine ⟨fun c1 => ⟨_, c_moneOf (a := 48) (m := 10) t1 (by omega) (by omega) (by omega), ?_⟩, fun c1 => ⟨_, c_moneOf (a := 49) (m := 9) t1 (by omega) (by omega) (by omega), ?_⟩⟩
    · have eD : ooD (mT H1 0) n 60 48 10 (p + 1) = acD (mT h 0) n p := by rw [T1]; unfold acD ooD; rw [← hc, if_neg c1]
      rw [eD]
      rintro v H2 (⟨h1, rfl, rfl⟩ | ⟨h1, rfl, rfl, h2⟩)
      · exact S89 _ _ (Or.inr ⟨h1, rfl⟩)
      · exact S89 _ _ (Or.inl ⟨h1, Int32.sub_zero _, rfl⟩)
    · have eD : ooD (mT H1 0) n 60 49 9 (p + 1) = acD (mT h 0) n p := by rw [T1]; unfold acD ooD; rw [← hc, if_pos (nn c1)]
      rw [eD]
      rintro v H2 (⟨h1, rfl, rfl⟩ | ⟨h1, rfl, rfl, h2⟩)
      · exact S89 _ _ (Or.inr ⟨h1, rfl⟩)
      · exact S89 _ _ (Or.inl ⟨h1, Int32.sub_add_cancel _ (nI 1), rfl⟩)
  refine ct_vc tX12_readAct [(38, [true, true, true])] 40 okM kX12_readAct rfl ⟨_, c_mhere t, ?_⟩
  rintro v h1 ⟨rfl, rfl⟩
  rw [← hc]
  refine ⟨fun c1 => GO (by rw [show c = nI 102 from c1]; decide), fun c1 => ⟨fun c2 => GO (by rw [show c = nI 100 from c2]; decide), fun c2 => ⟨fun c3 => GO (by rw [show c = nI 115 from c3]; decide), fun c3 => ⟨fun c4 => GO (by rw [show c = nI 98 from c4]; decide), fun c4 => ⟨_, c_mfault, ?_⟩⟩⟩⟩⟩
  rw [if_pos e15, e14]
  rintro v h2 rfl
  have hk : ¬ acK c = true := by unfold acK; rw [dF c1, dF c2, dF c3, dF c4]; decide
  have eA : act1 (mT h1 0) n p = (p, none) := by unfold act1; rw [← hc, if_neg hk]
  refine ⟨f0.fld (Or.inr rfl), Or.inr ⟨by rw [eA], by rw [eA]; omega, ?_⟩⟩
  rw [rdX, if_pos (by simp), eA]
