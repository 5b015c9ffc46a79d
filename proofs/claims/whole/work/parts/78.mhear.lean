/-! the reference: what was heard, breaks at rest -/
theorem MI.hea {B : Nat} {h h' : Hp} {g : GS} {n : Nat} {K V : Nat → Int32} (a : MI B h g) (f : Fm [(55, 0), (56, 0)] [42] h h') (e : m10 h' (uH g (n, K, V))) : MI B h' (uH g (n, K, V)) :=
  a.with (S := [(55, 0), (56, 0)]) (F := [42]) f.2.2.1 f.2.2.2 ⟨f.2.1 3 (by decide), f.2.1 4 (by decide)⟩ (Or.inl ⟨by decide, by decide, rfl, rfl⟩) (Or.inl ⟨by decide, by decide, rfl⟩) (Or.inl ⟨by decide, by decide, rfl⟩) (Or.inl ⟨by decide, by decide, rfl⟩) (Or.inl ⟨f.1, by decide, rfl⟩) (Or.inl ⟨by decide, by decide, by decide, rfl⟩) (Or.inl ⟨by decide, by decide, rfl⟩) (Or.inl ⟨by decide, by decide, by decide, by decide, rfl⟩) (Or.inl ⟨by decide, by decide, rfl⟩) (Or.inr e)
def hiV (kd : Int32) : Int32 := if kd = nI 0 ∨ kd = nI 2 then nI 3 else if kd = nI 1 then nI 99 else if kd = nI 3 then nI 9 else nI 1
def loV (kd : Int32) : Int32 := if kd = nI 3 then nI 1 else nI 0
theorem hcB_in {kd v : Int32} : hcB kd v = (inB (nI 0) (nI 4) kd && inB (loV kd) (hiV kd) v) := by
  unfold hcB
  by_cases c0 : kd = nI 0
  · subst c0; rfl
  · by_cases c1 : kd = nI 1
    · subst c1; rfl
    · by_cases c2 : kd = nI 2
      · subst c2
        rw [if_neg c0, if_neg c1, if_pos rfl]
        exact (in03 (x := v)).symm
      · by_cases c3 : kd = nI 3
        · subst c3; rfl
        · by_cases c4 : kd = nI 4
          · subst c4
            rw [if_neg c0, if_neg c1, if_neg c2, if_neg c3, if_pos rfl]
            show _ = (true && inB (nI 0) (nI 1) v)
            rw [Bool.true_and, in01]
            unfold okS
            by_cases q : v = 0
            · subst q; rfl
            · by_cases q1 : v = nI 1
              · subst q1; rfl
              · rw [dF q, dF q1]
                have : ¬ (0 ≤ v ∧ v < nI 2) := by
                  intro ⟨w1, w2⟩
                  obtain ⟨j, hj, rfl⟩ := nI_of (i_ltn w1)
                  have := (nI_ltI hj (by omega)).mp w2
                  have : j = 0 ∨ j = 1 := by omega
                  rcases this with rfl | rfl
                  · exact q rfl
                  · exact q1 rfl
                by_cases w1 : 0 ≤ v
                · rw [dT w1, dF (fun w2 => this ⟨w1, w2⟩)]; rfl
                · rw [dF w1]; rfl
          · rw [if_neg c0, if_neg c1, if_neg c2, if_neg c3, if_neg c4]
            have : inB (nI 0) (nI 4) kd = false := by
              apply Bool.eq_false_iff.mpr
              intro w
              obtain ⟨j, -, hj, e⟩ := inB_get w (by omega) (by omega)
              have : j = 0 ∨ j = 1 ∨ j = 2 ∨ j = 3 ∨ j = 4 := by omega
              rcases this with rfl | rfl | rfl | rfl | rfl
              · exact c0 e
              · exact c1 e
              · exact c2 e
              · exact c3 e
              · exact c4 e
            rw [this]; rfl
theorem m_Heard {B k : Nat} {h : Hp} {g : GS} {x y : Int32} (a : MI B h g) (z : Sz g) : Ct alM mX12_heard (k + 1) [vR 12 0, vI x, vI y] h (fun v h' => v = vI (aHeard g x y) ∧ MI B h' (nHeard g x y)) := by
  have hm := z.m
  have a0 := a.fld (j := 10) (x := nI 0) (by decide)
  obtain ⟨h0, hh0⟩ : ∃ h0, sX h 12 0 10 (nI 0) = h0 := ⟨_, rfl⟩
  rw [hh0] at a0
  have e42 : h0.1 12 0 42 = nI (gH g) := a0.2.2.2.2.2.2.2.2.2.1
  have NO : heB g x y = false → WP alM mX12_heard (k + 1) (fun v h' => v = vI (aHeard g x y) ∧ MI B h' (nHeard g x y)) 80 [none, none, none, none, none] [] h0 := by
    intro hno
    have hno' : ¬ heB g x y = true := by rw [hno]; decide
    unfold aHeard nHeard
    rw [if_neg hno', if_neg hno']
    exact wp_at tX12_heard [] 10 80 okM kX12_heard ⟨rfl, a0⟩
  have S50 : ∀ lo hi, loV x = lo → hiV x = hi → WP alM mX12_heard (k + 1) (fun v h' => v = vI (aHeard g x y) ∧ MI B h' (nHeard g x y)) 50 [some (vR 12 0), some (vI x), some (vI y), some (vI lo), none] [vI hi] h0 := by
    intro lo hi hlo hhi
    refine wp_at tX12_heard [(80, [false, false, false, false, false])] 60 50 okM kX12_heard ⟨_, c_min, ?_⟩
    rintro v h1 ⟨rfl, rfl⟩
    refine ⟨fun c => NO (by unfold heB; rw [hcB_in, b2_0.mp c]; exact Bool.and_false _), fun c => ⟨_, c_min, ?_⟩⟩
    rintro v h1 ⟨rfl, rfl⟩
    refine ⟨fun c2 => NO (by unfold heB; rw [hcB_in, hlo, hhi, b2_0.mp c2, Bool.and_false, Bool.and_false]), fun c2 => ⟨fun c3 => ?_, fun c3 => NO ?_⟩⟩
    · have c4 : gH g < 12 := by
        have : ¬ gH g = 12 := fun w => c3 (by rw [e42, w])
        omega
      have hyes : heB g x y = true := by unfold heB; rw [hcB_in, hlo, hhi, b2_n0.mp c, b2_n0.mp c2, dT c4]; rfl
      unfold aHeard nHeard
      rw [if_pos hyes, if_pos hyes]
      refine ⟨by rw [e42]; exact ix1 12 c4, ?_⟩
      rw [e42, nI_clamp (by omega)]
      have f42 : ∀ u, (sX h1 55 0 (gH g) u).1 12 0 42 = nI (gH g) := fun u => by rw [rdX, if_neg (by simp)]; exact e42
      refine ⟨by rw [f42]; exact ix1 12 c4, ?_⟩
      rw [f42, nI_clamp (by omega)]
      have g42 : (sX (sX h1 55 0 (gH g) x) 56 0 (gH g) y).1 12 0 42 = nI (gH g) := by rw [rdX, if_neg (by simp)]; exact f42 x
      obtain ⟨k1, k2⟩ := a0.2.2.2.2.2.2.2.2.2
      refine ⟨?_, ?_⟩
      · show vI ((sX (sX (sX h1 55 0 (gH g) x) 56 0 (gH g) y) 12 0 42 ((sX (sX h1 55 0 (gH g) x) 56 0 (gH g) y).1 12 0 42 + nI 1)).1 12 0 42) = _
        rw [rdX, if_pos (by simp), g42, nI_add]
      · rw [g42, nI_add]
        refine a0.hea (((Fm.rf.sX (by simp) (by decide)).sX (by simp) (by decide)).sF (by simp)) ⟨by rw [rdX, if_pos (by simp)], fun j hj => ?_⟩
        have hj' : j < gH g + 1 := hj
        show (sX (sX (sX h1 55 0 (gH g) x) 56 0 (gH g) y) 12 0 42 (nI (gH g + 1))).1 55 0 j = upd (gHk g) (gH g) x j ∧ (sX (sX (sX h1 55 0 (gH g) x) 56 0 (gH g) y) 12 0 42 (nI (gH g + 1))).1 56 0 j = upd (gHv g) (gH g) y j
        rw [sX_row, if_neg (by simp), sX_row, if_neg (by simp), sX_row, if_pos (by simp), sX_row, if_neg (by simp), sX_row, if_pos (by simp), sX_row, if_neg (by simp)]
        by_cases cj : j = gH g
        · subst cj; rw [upd_s, upd_s, upd_s, upd_s]; exact ⟨rfl, rfl⟩
        · rw [upd_n cj, upd_n cj, upd_n cj, upd_n cj]
          exact k2 j (by omega)
    · have c4 : h1.1 12 0 42 = nI 12 := nn c3
      rw [e42] at c4
      have c5 := nI_inj (by omega) (by omega) c4
      unfold heB
      rw [dF (show ¬ gH g < 12 by omega)]; rfl
  have S16 : WP alM mX12_heard (k + 1) (fun v h' => v = vI (aHeard g x y) ∧ MI B h' (nHeard g x y)) 16 [some (vR 12 0), some (vI x), some (vI y), some (vI (loV x)), none] [] h0 := by
    refine wp_at tX12_heard [(50, [true, true, true, true, false])] 60 16 okM kX12_heard ⟨fun c => S50 _ _ rfl ?_, fun c => ⟨fun c2 => ⟨fun c3 => ⟨fun c4 => S50 _ _ rfl ?_, fun c4 => S50 _ _ rfl ?_⟩, fun c3 => S50 _ _ rfl ?_⟩, fun c2 => S50 _ _ rfl ?_⟩⟩
    · unfold hiV; rw [if_pos (Or.inl (show x = nI 0 from c))]
    · unfold hiV; rw [if_neg (show ¬ (x = nI 0 ∨ x = nI 2) from fun q => q.elim c c2), if_neg c3, if_neg c4]
    · unfold hiV; rw [if_neg (show ¬ (x = nI 0 ∨ x = nI 2) from fun q => q.elim c c2), if_neg c3, if_pos (nn c4)]
    · unfold hiV; rw [if_neg (show ¬ (x = nI 0 ∨ x = nI 2) from fun q => q.elim c c2), if_pos (nn c3)]
    · unfold hiV; rw [if_pos (Or.inr (nn c2))]
  refine ct_vc tX12_heard [(5, [true, true, true, false, false])] 10 okM kX12_heard rfl ?_
  show WP alM mX12_heard (k + 1) _ 5 [some (vR 12 0), some (vI x), some (vI y), none, none] [] (sX h 12 0 10 (nI 0))
  rw [hh0]
  refine wp_at tX12_heard [(16, [true, true, true, true, false])] 40 5 okM kX12_heard ⟨fun c => ?_, fun c => ?_⟩
  · unfold loV at S16; rw [if_neg c] at S16; exact S16
  · unfold loV at S16; rw [if_pos (nn c)] at S16; exact S16
theorem m_Forget {B k : Nat} {h : Hp} {g : GS} (a : MI B h g) : Ct alM mX12_forget k [vR 12 0] h (fun v h' => v = vI (nI (gH g)) ∧ MI B h' (nForget g)) := by
  have a0 := a.fld (j := 10) (x := nI 0) (by decide)
  refine ct_vc tX12_forget [] 30 okM kX12_forget rfl ?_
  refine ⟨congrArg vI a0.2.2.2.2.2.2.2.2.2.1, a0.hea (Fm.rf.sF (by simp)) ⟨by rw [rdX, if_pos (by simp)], fun j hj => ?_⟩⟩
  exact absurd hj (Nat.not_lt_zero j)
theorem c_mfits {k j : Nat} {h : Hp} {g : GS} {kd v : Int32} (w : Wm h g) (hs : h.1 40 0 = mS (gS g)) (hj : j < gN g) : Ct alM mX12_fits (k + 1) [vR 12 0, vI (nI j), vI kd, vI v] h (Rd h (b2 (foB kd v (gR g) (gS g) j))) := by
  have hn := w.2.1
  refine ct_vc tX12_fits [(111, [false, false, false, true]), (121, [false, false, false, false])] 60 okM kX12_fits rfl ?_
  unfold foB
  have e32 : h.1 40 0 (nI 32 + nI j).toNatClampNeg = gS g (32 + j) := by rw [ixC (by omega), hs, mS_lo (by omega)]
  refine ⟨fun c => ?_, fun c => ⟨fun c1 => ?_, fun c1 => ⟨fun c2 => ?_, fun c2 => ⟨fun c3 => ?_, fun c3 => ?_⟩⟩⟩⟩
  · rw [if_pos (show kd = nI 0 from c)]
    refine ⟨_, c_arms w hj, ?_⟩
    rintro x h' ⟨rfl, rfl⟩
    exact ⟨fun q => ⟨Or.inl rfl, bF (dF q), rfl⟩, fun q => ⟨Or.inr rfl, bT (dT (nn q)), rfl⟩⟩
  · rw [if_neg (show ¬ kd = nI 0 from c), if_pos (show kd = nI 1 from c1)]
    refine ⟨ix1 47 (by omega), ?_⟩
    rw [nI_clamp (by omega), hs, mS_lo (by omega)]
    exact ⟨fun q => ⟨Or.inl rfl, bF (dF (i_len q)), rfl⟩, fun q => ⟨Or.inr rfl, bT (dT (i_nlt q)), rfl⟩⟩
  · rw [if_neg (show ¬ kd = nI 0 from c), if_neg (show ¬ kd = nI 1 from c1), if_pos (show kd = nI 2 from c2)]
    refine ⟨_, c_owner w hj, ?_⟩
    rintro x h' ⟨rfl, rfl⟩
    exact ⟨fun q => ⟨Or.inl rfl, bF (dF q), rfl⟩, fun q => ⟨Or.inr rfl, bT (dT (nn q)), rfl⟩⟩
  · rw [if_neg (show ¬ kd = nI 0 from c), if_neg (show ¬ kd = nI 1 from c1), if_neg (show ¬ kd = nI 2 from c2), if_pos (show kd = nI 3 from c3)]
    refine ⟨_, c_mhire w hj, ?_⟩
    rintro x h' ⟨rfl, rfl⟩
    exact ⟨fun q => ⟨Or.inl rfl, bF (dF (i_len q)), rfl⟩, fun q => ⟨Or.inr rfl, bT (dT (i_nlt q)), rfl⟩⟩
  · rw [if_neg (show ¬ kd = nI 0 from c), if_neg (show ¬ kd = nI 1 from c1), if_neg (show ¬ kd = nI 2 from c2), if_neg (show ¬ kd = nI 3 from c3)]
    have S121 : ∀ p q : Bool, p = decide (gS g (32 + j) = nI 1) → q = decide (v = nI 1) → WP alM mX12_fits (k + 1) (Rd h (b2 (decide (decide (gS g (32 + j) = nI 1) = decide (v = nI 1))))) 121 [none, none, none, none] [vI (b2 q), vI (b2 p)] h := by
      intro p q hp hq
      rw [← hp, ← hq]
      refine wp_at tX12_fits [] 20 121 okM kX12_fits ⟨fun c => ⟨Or.inl rfl, bF (dF (fun e => c (by rw [e]))), rfl⟩, fun c => ⟨Or.inr rfl, bT (dT (b2_inj (nn c))), rfl⟩⟩
    have S111 : ∀ p : Bool, p = decide (gS g (32 + j) = nI 1) → WP alM mX12_fits (k + 1) (Rd h (b2 (decide (decide (gS g (32 + j) = nI 1) = decide (v = nI 1))))) 111 [none, none, none, some (vI v)] [vI (b2 p)] h := by
      intro p hp
      refine wp_at tX12_fits [(121, [false, false, false, false])] 20 111 okM kX12_fits ⟨fun c => S121 p false hp (dF c).symm, fun c => S121 p true hp (dT (nn c)).symm⟩
    refine ⟨ixN 47 (by omega), ?_⟩
    rw [e32]
    exact ⟨fun q => S111 false (dF q).symm, fun q => S111 true (dT (nn q)).symm⟩
theorem alF_1 {p : Nat → Bool} {n : Nat} : alF p (n + 1) = (alF p n && p n) := rfl
theorem c_mfitting {B D k : Nat} {h : Hp} {g : GS} (a : MI B h g) (z : Sz g) (iv : Inv D g) : Ct alM mX12_fitting (k + 2) [vR 12 0] h (Rd h (aFits g)) := by
  have hn := z.1
  have hm := z.m
  have w := a.ww z iv
  obtain ⟨k1, k2⟩ := a.2.2.2.2.2.2.2.2.2
  have L : ∀ t, t ≤ gN g → WP alM mX12_fitting (k + 2) (Rd h (aFits g)) 4 [some (vR 12 0), some (vI (ftF (gHk g) (gHv g) (gR g) (gS g) (gH g) t)), some (vI (nI t)), none, none] [] h := by
    refine loop_up (gN g) ?_ (fun t ht ih => ?_)
    · exact wp_at tX12_fitting [] 20 4 okM kX12_fitting ⟨fun _ => ⟨rfl, rfl⟩, fun c => absurd (by rw [a.n1]; exact nI_le (Nat.le_refl _) (by omega)) c⟩
    · rw [ftF_s, ← nI_add t 1] at ih
      have IN : ∀ q, q ≤ gH g → WP alM mX12_fitting (k + 2) (Rd h (aFits g)) 17 [some (vR 12 0), some (vI (ftF (gHk g) (gHv g) (gR g) (gS g) (gH g) t)), some (vI (nI t)), some (vI (b2 (alF (fun i => foB (gHk g i) (gHv g i) (gR g) (gS g) t) q))), some (vI (nI q))] [] h := by
        refine loop_up (gH g) ?_ (fun q hq ih2 => ?_)
        · refine wp_at tX12_fitting [(4, [true, true, true, false, false])] 30 17 okM kX12_fitting ⟨fun _ => ⟨fun c => ?_, fun c => ?_⟩, fun c => absurd (by rw [k1]; exact nI_le (Nat.le_refl _) (by omega)) c⟩
          · have c' : faB (gHk g) (gHv g) (gR g) (gS g) (gH g) t = false := b2_0.mp c
            rw [if_neg (by rw [c']; decide)] at ih
            exact ih
          · have c' : faB (gHk g) (gHv g) (gR g) (gS g) (gH g) t = true := b2_n0.mp c
            rw [if_pos c'] at ih
            exact ih
        · rw [alF_1, ← nI_add q 1] at ih2
          have N : ∀ bb, bb = (alF (fun i => foB (gHk g i) (gHv g i) (gR g) (gS g) t) q && foB (gHk g q) (gHv g q) (gR g) (gS g) t) → WP alM mX12_fitting (k + 2) (Rd h (aFits g)) 57 [some (vR 12 0), some (vI (ftF (gHk g) (gHv g) (gR g) (gS g) (gH g) t)), some (vI (nI t)), none, some (vI (nI q))] [vI (b2 bb)] h := by
            intro bb hb
            rw [← hb] at ih2
            exact wp_at tX12_fitting [(17, [true, true, true, true, true])] 20 57 okM kX12_fitting ih2
          refine wp_at tX12_fitting [(57, [true, true, true, false, true])] 60 17 okM kX12_fitting ⟨fun c => absurd c (by rw [k1]; exact nI_ge hq (by omega)), fun _ => ⟨fun c => N false (by rw [b2_0.mp c]; rfl), fun c => ⟨ix1 12 (by omega), ix1 12 (by omega), ?_⟩⟩⟩
          rw [nI_clamp (by omega), (k2 q hq).1, (k2 q hq).2]
          refine ⟨_, c_mfits w a.1.1 ht, ?_⟩
          rintro v h2 ⟨rfl, rfl⟩
          refine ⟨fun c2 => N false (by rw [b2_0.mp c2, Bool.and_false]), fun c2 => N true (by rw [b2_n0.mp c, b2_n0.mp c2]; rfl)⟩
      refine wp_at tX12_fitting [(17, [true, true, true, true, true])] 20 4 okM kX12_fitting ⟨fun c => absurd c (by rw [a.n1]; exact nI_ge ht (by omega)), fun _ => ?_⟩
      exact IN 0 (Nat.zero_le _)
  refine ct_vc tX12_fitting [(4, [true, true, true, false, false])] 20 okM kX12_fitting rfl ?_
  exact L 0 (Nat.zero_le _)
theorem m_Fits {B D k : Nat} {h : Hp} {g : GS} (a : MI B h g) (z : Sz g) (iv : Inv D g) : Ct alM mX12_fits_ (k + 3) [vR 12 0] h (fun v h' => v = vI (aFits g) ∧ MI B h' (nFits g)) := by
  have a0 := (a.fld (j := 10) (x := nI 0) (by decide)).clr
  have z0 : Sz (uL g []) := ⟨z.1, z.2.1, z.2.2.1, Nat.zero_le _, z.2.2.2.2⟩
  have i0 : Inv D (uL g []) := iv
  refine ct_vc tX12_fits_ [] 40 okM kX12_fits_ rfl ?_
  refine ⟨_, c_mfitting a0 z0 i0, ?_⟩
  rintro v h1 ⟨rfl, rfl⟩
  refine ⟨_, c_bitCount okM, ?_⟩
  rintro v h1 ⟨rfl, rfl⟩
  refine ⟨_, c_tellR a0 (by show (0 : Nat) < 16; decide), ?_⟩
  rintro v h2 ⟨a2, -⟩
  have z2 : Sz (uL (uL g []) (gL (uL g []) ++ [(bcF (aFits (uL g []))).toInt64])) := ⟨z.1, z.2.1, z.2.2.1, by show (1 : Nat) ≤ 8; decide, z.2.2.2.2⟩
  refine ⟨_, c_mfitting a2 z2 iv, ?_⟩
  rintro v h3 ⟨rfl, rfl⟩
  exact ⟨rfl, a2⟩
