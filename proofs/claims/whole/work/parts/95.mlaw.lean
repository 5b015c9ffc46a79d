/-! the reference: law -/
theorem c_winsFirst {k one oth : Nat} {h : Hp} {g : GS} {s : Sta} (w : Wm h g) (hs : h.1 40 0 = mS s) (h1 : one < gN g) (h2 : oth < gN g) : Ct alM mX12_winsFirst (k + 311) [vR 12 0, vI (nI one), vI (nI oth)] h (fun v h' => v = vI (b2 (fwB (gC g) (gR g) s one oth)) ∧ Fm stS stI h h') := by
  refine ct_vc tX12_winsFirst [] 40 okM kX12_winsFirst rfl ⟨_, c_mstr w hs h1 h2, ?_⟩
  rintro v h3 ⟨rfl, f3⟩
  have w3 : Wm h3 g := w.go f3 (by simp [stS]) (by simp [stS]) (by simp [stS]) (by simp [stS]) (by simp [stI]) (by simp [stI]) (by simp [stI]) (by simp [stI])
  refine ⟨_, c_mstr w3 (by rw [f3.2.2.1 40 0 (by simp) (by simp [stS])]; exact hs) h2 h1, ?_⟩
  rintro v h4 ⟨rfl, f4⟩
  have f : Fm stS stI h h4 := f3.tr f4 (fun _ h => h) (fun _ h => h)
  unfold fwB
  refine ⟨fun c => ⟨Or.inl rfl, ?_, f⟩, fun c => ⟨Or.inr rfl, ?_, f⟩⟩
  · rw [dF (Int32.not_le.mpr c)]; rfl
  · rw [dT (Int32.not_lt.mp c)]; rfl
/-- with the rule put back -/
def ReH (h : Hp) (n0 : Nat) : Hp := sX (sD h 3 1) 12 0 19 (nI n0)
theorem Fm.re {S : List Ad} {F : List Nat} {h h' : Hp} {n0 : Nat} (f : Fm S F h h') : Fm S F (ReH h n0) (ReH h' n0) := by
  refine ⟨f.1, fun x hx => ?_, fun k i hk hS => ?_, fun j hj => ?_⟩
  · show (if x = 3 then 1 else h'.2.2 x) = (if x = 3 then 1 else h.2.2 x)
    rw [f.2.1 x hx]
  · unfold ReH
    rw [sX_row, if_neg (fun w => hk (by rw [w.1, w.2])), sX_row, if_neg (fun w => hk (by rw [w.1, w.2])), rdD, rdD]
    exact f.2.2.1 k i hk hS
  · unfold ReH
    rw [rdX, rdX, rdD, rdD, f.2.2.2 j hj]
theorem re_row {h : Hp} {n0 k i : Nat} (hk : (k, i) ≠ (12, 0)) : (ReH h n0).1 k i = h.1 k i := by
  unfold ReH
  rw [sX_row, if_neg (fun w => hk (by rw [w.1, w.2])), rdD]
theorem re_f {h : Hp} {n0 j : Nat} (hj : j ≠ 19) : (ReH h n0).1 12 0 j = h.1 12 0 j := by
  unfold ReH
  rw [rdX, if_neg (by simp [hj]), rdD]
theorem re_tl {h : Hp} {n0 m : Nat} {x : Int64} : ReH (tlH h m x) n0 = tlH (ReH h n0) m x := by
  have e : (ReH (tlH h m x) n0).1 = (tlH (ReH h n0) m x).1 := by
    funext k i j
    unfold ReH tlH
    rw [rdX, rdX, rdL, rdX, rdD, rdX, rdL, rdD]
    by_cases c1 : k = 12 ∧ i = 0 ∧ j = 19
    · obtain ⟨rfl, rfl, rfl⟩ := c1; simp
    · by_cases c2 : k = 12 ∧ i = 0 ∧ j = 9
      · obtain ⟨rfl, rfl, rfl⟩ := c2; simp
      · rw [if_neg c1, if_neg c2, if_neg c2, if_neg c1]
  exact Prod.ext e (Prod.ext rfl rfl)
theorem c_tell0 {k m : Nat} {h : Hp} {x : Int64} (e9 : h.1 12 0 9 = nI m) (hm : m < 16) : Ct alM mX12_tell k [vR 12 0, vL x] h (Rv (tlH h m x)) := by
  refine ct_vc tX12_tell [] 30 okM kX12_tell rfl ?_
  refine ⟨by rw [e9]; exact ix1 16 hm, ?_⟩
  show sX (sL h 44 (h.1 12 0 9).toNatClampNeg x) 12 0 9 ((sL h 44 (h.1 12 0 9).toNatClampNeg x).1 12 0 9 + nI 1) = tlH h m x
  unfold tlH
  rw [rdL, e9, nI_clamp (by omega), nI_add]
theorem tl_row {h : Hp} {m k i : Nat} {x : Int64} (hk : (k, i) ≠ (12, 0)) : (tlH h m x).1 k i = h.1 k i := by unfold tlH; rw [sX_row, if_neg (fun w => hk (by rw [w.1, w.2])), rdL]
theorem tl_f {h : Hp} {m j : Nat} {x : Int64} (hj : j ≠ 9) : (tlH h m x).1 12 0 j = h.1 12 0 j := by unfold tlH; rw [rdX, if_neg (by simp [hj]), rdL]
theorem Wm.cg {h h' : Hp} {g : GS} (w : Wm h g) (r : ∀ k i, (k, i) ≠ (12, 0) → h'.1 k i = h.1 k i) (f : ∀ j, j ≠ 9 → h'.1 12 0 j = h.1 12 0 j) (d : h'.2.2 = h.2.2) : Wm h' g := by
  obtain ⟨w1, w2, w3, w4, w5, w6, w7, w8, w9, rr, n, w10, w11, w12, w13, w14, w15⟩ := w
  refine ⟨by rw [f 1 (by decide)]; exact w1, w2, by rw [r 41 0 (by simp)]; exact w3, w4, by rw [f 3 (by decide)]; exact w5, w6, by rw [r 42 0 (by simp)]; exact w7, w8, by rw [f 5 (by decide)]; exact w9, rr, n, w10, by rw [d]; exact w11, w12, by rw [f 19 (by decide)]; exact w13, by rw [r 43 rr (by simp)]; exact w14, by rw [mT_cg (r 43 rr (by simp))]; exact w15⟩
theorem nar_b (b : Bool) : vp_nar .boolean (b2 b) = b2 b := by cases b <;> decide
theorem re_9 {h : Hp} {n0 : Nat} {x : Int32} : ReH (sX h 12 0 9 x) n0 = sX (ReH h n0) 12 0 9 x := by
  have e : (ReH (sX h 12 0 9 x) n0).1 = (sX (ReH h n0) 12 0 9 x).1 := by
    funext k i j
    unfold ReH
    rw [rdX, rdD, rdX, rdX, rdX, rdD]
    by_cases c1 : k = 12 ∧ i = 0 ∧ j = 19
    · obtain ⟨rfl, rfl, rfl⟩ := c1; simp
    · by_cases c2 : k = 12 ∧ i = 0 ∧ j = 9
      · obtain ⟨rfl, rfl, rfl⟩ := c2; simp
      · rw [if_neg c1, if_neg c2, if_neg c2, if_neg c1]
  exact Prod.ext e (Prod.ext rfl rfl)
theorem m_Law {B D k : Nat} {h : Hp} {g : GS} (a : MI B h g) (z : Sz g) (iv : Inv D g) : Ct alM mX12_law (k + 312) [vR 12 0] h (fun v h' => v = vI (aLaw g) ∧ MI B h' (nLaw g)) := by
  have hn := z.1
  have a0 := a.fld (j := 10) (x := nI 0) (by decide)
  obtain ⟨h0, hh0⟩ : ∃ h0, sX h 12 0 10 (nI 0) = h0 := ⟨_, rfl⟩
  rw [hh0] at a0
  have e7 : h0.1 12 0 7 = nI (gTn g) := a0.2.2.2.1.1
  have hn80 : gTn g ≤ 80 := z.2.2.1
  have hb := a0.2.2.2.1.2.1
  have hT := a0.2.2.2.1.2.2
  obtain ⟨cg1, cg2⟩ := rdO_cg (T := mT h0 0) (T' := gT g) (n := gTn g) hT
  refine ct_vc tX12_law [(5, [true, false, false, false, false, false, false])] 20 okM kX12_law rfl ?_
  show WP alM mX12_law (k + 312) _ 5 [some (vR 12 0), none, none, none, none, none, none] [] (sX h 12 0 10 (nI 0))
  rw [hh0]
  refine wp_at tX12_law [(28, [true, true, true, false, false, false, false])] 40 5 okM kX12_law ⟨_, c_readRule e7 hn80 hb, ?_⟩
  rw [e7]
  rintro v h1 ⟨f1, e71, hr⟩
  rw [cg1, cg2] at hr
  have a1 : ∀ T, MI B h1 (uT g (0, T)) := fun T => a0.txt f1 (by simp [rrF, scI]) e71
  rcases hr with ⟨c, hO, rfl⟩ | ⟨hO, rfl, e15⟩
  · have n40 : gTn g ≤ 40 := by
      have r40 := rdR_40 (T := gT g) (n := gTn g)
      by_cases w : gTn g = 0
      · omega
      · unfold rdO at hO
        rw [show rdn (gTn g) = gTn g from if_neg w] at hO
        by_cases w2 : gTn g ≤ (rdR (gT g) (gTn g)).1
        · omega
        · rw [if_neg w2] at hO; cases hO
    refine ⟨fun _ => ?_, fun w => absurd (show ¬ nI 1 = 0 by decide) w⟩
    have eA : aLaw g = nI (lwR g c).1 := by unfold aLaw; rw [hO]
    have eN : nLaw g = uL (uT g (0, rdT (gT g) (gTn g))) (lwR g c).2 := by unfold nLaw; rw [hO]
    rw [eA, eN]
    obtain ⟨g1, hg1⟩ : ∃ g1, g1 = uT g (0, rdT (gT g) (gTn g)) := ⟨_, rfl⟩
    have a1' : MI B h1 g1 := by rw [hg1]; exact a1 _
    have w1 : Wm h1 g := (a1 (gT g)).w (g := uT g (0, gT g)) ⟨z.1, z.2.1, Nat.zero_le _, z.2.2.2⟩ iv.1
    rw [← hg1]
    have row0 : h1.1 43 0 = h0.1 43 0 := f1.2.2.1 43 0 (by simp) (by simp)
    have gs1 : gS g1 = gS g := by rw [hg1]
    have s40 : h1.1 40 0 = mS (gS g) := by rw [← gs1]; exact a1'.1.1
    obtain ⟨m61, m62, m63, m64, n0, hn0, m65, m66⟩ := a1'.2.2.2.2.2.1
    obtain ⟨P, hP⟩ : ∃ P : AV → Hp → Prop, P = fun v h' => v = vI (nI (lwR g c).1) ∧ MI B h' (uL g1 (lwR g c).2) := ⟨_, rfl⟩
    rw [← hP]
    let FI : Nat → Nat → Hp → Prop := fun i j H => ∀ p q, p < q → q < gN g → (p < i ∨ (p = i ∧ q < j)) → H.1 57 0 (8 * p + q) = b2 (fwB (gC g) (gR g) (gS g) p q)
    let S1 : List Ad := [(57, 0), (46, 0)]
    -- the second part: the new rule
    have N2 : ∀ H, Fm S1 stI h1 H → FI (gN g) 0 H → WP alM mX12_law (k + 312) P 77 [some (vR 12 0), some (vI (nI (gTn g))), none, none, none, none, none] [] H := by
      intro H fm fi
      have s3 : H.2.2 3 = 1 := by rw [fm.2.1 3 (by decide)]; exact m61
      have s4 : H.2.2 4 = 2 := by rw [fm.2.1 4 (by decide)]; exact m62
      have e19 : H.1 12 0 19 = nI n0 := by rw [fm.2.2.2 19 (by simp [stI])]; exact m65
      obtain ⟨H0, hH0⟩ : ∃ H0, H0 = sX (sD H 3 2) 12 0 19 (nI (gTn g)) := ⟨_, rfl⟩
      have r0 : ∀ k i, (k, i) ≠ (12, 0) → H0.1 k i = H.1 k i := fun k i hk => by rw [hH0, sX_row, if_neg (fun w => hk (by rw [w.1, w.2])), rdD]
      have q0 : ∀ j, j ≠ 19 → H0.1 12 0 j = H.1 12 0 j := fun j hj => by rw [hH0, rdX, if_neg (by simp [hj]), rdD]
      have d0 : H0.2.2 3 = 2 ∧ H0.2.2 4 = 2 := by rw [hH0]; exact ⟨rfl, s4⟩
      -- what the last loop keeps
      let LI : Hp → Rs → Prop := fun H2 q => Wm H2 (uC g c) ∧ MI B (ReH H2 n0) (uL g1 q.2) ∧ (∀ p q, p < q → q < gN g → H2.1 57 0 (8 * p + q) = b2 (fwB (gC g) (gR g) (gS g) p q)) ∧ (q.1 = 0 → q.2 = []) ∧ q.2.length ≤ 2
      have OU2 : ∀ f i (q : Rs) H2, i + f = gN g → lwR g c = lpG (lwO g c) f i q → q.1 ≤ 8 * i → LI H2 q → WP alM mX12_law (k + 312) P 140 [some (vR 12 0), none, some (vR 43 1), some (vI (nI n0)), some (vI (nI q.1)), some (vI (nI i)), none] [] H2 := by
        intro f
        induction f with
        | zero =>
          intro i q H2 hi e hq li
          have nH := li.1.1
          have e' : lwR g c = q := e
          refine wp_at tX12_law [] 30 140 okM kX12_law ⟨fun _ => ?_, fun c => absurd (by rw [nH]; exact nI_le (show gN g ≤ i by omega) (by omega)) c⟩
          show P (vI (nI q.1)) (ReH H2 n0)
          rw [hP, e']
          exact ⟨rfl, li.2.1⟩
        | succ f IH =>
          intro i q H2 hi e hq li
          have IN : ∀ f' j (q : Rs) H2, i < j → j + f' = gN g → lwR g c = lpG (lwO g c) f (i + 1) (lpG (lw1 g c i) f' j q) → q.1 + 1 ≤ 8 * i + j → LI H2 q → WP alM mX12_law (k + 312) P 155 [some (vR 12 0), none, some (vR 43 1), some (vI (nI n0)), some (vI (nI q.1)), some (vI (nI i)), some (vI (nI j))] [] H2 := by
            intro f'
            induction f' with
            | zero =>
              intro j q H2 hij hj e hq li
              have nH := li.1.1
              have := IH (i + 1) q H2 (by omega) e (by omega) li
              rw [← nI_add i 1] at this
              exact wp_at tX12_law [(140, [true, false, true, true, true, true, false])] 20 155 okM kX12_law ⟨fun _ => this, fun c => absurd (by rw [nH]; exact nI_le (show gN g ≤ j by omega) (by omega)) c⟩
            | succ f' IH2 =>
              intro j q H2 hij hj e hq li
              rw [lpG_s] at e
              obtain ⟨wH, mH, f57, qz, ql⟩ := li
              have nH := wH.1
              have sH : H2.1 40 0 = mS (gS g) := by rw [← re_row (n0 := n0) (by simp), ← gs1]; exact mH.1.1
              have i8 : nI 8 * nI i + nI j = nI (8 * i + j) := by rw [nI_mul, nI_add]
              have SK : ∀ H2 q', LI H2 q' → q'.1 ≤ q.1 + 1 → lw1 g c i j q = q' → WP alM mX12_law (k + 312) P 239 [some (vR 12 0), none, some (vR 43 1), some (vI (nI n0)), some (vI (nI q'.1)), some (vI (nI i)), some (vI (nI j))] [] H2 := by
                intro H2 q' li hq' es
                rw [es] at e
                have := IH2 (j + 1) q' H2 (by omega) (by omega) e (by omega) li
                rw [← nI_add j 1] at this
                exact wp_at tX12_law [(155, [true, false, true, true, true, true, true])] 20 239 okM kX12_law this
              have NO : ∀ H2, LI H2 q → ¬ (gS g (32 + i) = 0 ∧ gS g (32 + j) = 0 ∧ fwB (gC g) (gR g) (gS g) i j ≠ fwB c (gR g) (gS g) i j) → WP alM mX12_law (k + 312) P 239 [some (vR 12 0), none, some (vR 43 1), some (vI (nI n0)), some (vI (nI q.1)), some (vI (nI i)), some (vI (nI j))] [] H2 := fun H2 li hno => SK H2 q li (by omega) (if_neg hno)
              have e32 : ∀ x, x < 8 → H2.1 40 0 (nI 32 + nI x).toNatClampNeg = gS g (32 + x) := fun x hx => by rw [ixC (by omega), sH, mS_lo (by omega)]
              refine wp_at tX12_law [(239, [true, false, true, true, true, true, true]), (236, [true, false, true, true, true, true, true])] 80 155 okM kX12_law ⟨fun c => absurd c (by rw [nH]; exact nI_ge (show j < gN g by omega) (show gN g < 2 ^ 31 by omega)), fun _ => ⟨ixN 47 (by omega), ?_⟩⟩
              rw [e32 i (by omega)]
              refine ⟨fun c1 => NO H2 ⟨wH, mH, f57, qz, ql⟩ (fun w => c1 w.1), fun c1 => ⟨ixN 47 (by omega), ?_⟩⟩
              rw [e32 j (by omega)]
              refine ⟨fun c2 => NO H2 ⟨wH, mH, f57, qz, ql⟩ (fun w => c2 w.2.1), fun c2 => ⟨_, c_winsFirst wH sH (show i < gN g by omega) (show j < gN g by omega), ?_⟩⟩
              rintro v H3 ⟨rfl, fm3⟩
              have li3 : LI H3 q := ⟨wH.go fm3 (by simp [stS]) (by simp [stS]) (by simp [stS]) (by simp [stS]) (by simp [stI]) (by simp [stI]) (by simp [stI]) (by simp [stI]), mH.scr fm3.re (by simp [stS, scA]) (by simp [stI, scI]), by rw [fm3.2.2.1 57 0 (by simp) (by simp [stS])]; exact f57, qz, ql⟩
              refine ⟨by rw [i8]; exact ix1 64 (by omega), ?_⟩
              rw [i8, nI_clamp (by omega), li3.2.2.1 i j hij (by omega)]
              refine ⟨fun c3 => ?_, fun c3 => NO H3 li3 (fun w => w.2.2 (b2_inj (nn c3)).symm)⟩
              have es : lw1 g c i j q = (q.1 + 1, if q.1 = 0 then [(nI i).toInt64, (nI j).toInt64] else q.2) := if_pos ⟨nn c1, nn c2, fun w => c3 (by rw [w])⟩
              have G : ∀ H4, LI H4 (q.1 + 1, if q.1 = 0 then [(nI i).toInt64, (nI j).toInt64] else q.2) → WP alM mX12_law (k + 312) P 236 [some (vR 12 0), none, some (vR 43 1), some (vI (nI n0)), some (vI (nI q.1)), some (vI (nI i)), some (vI (nI j))] [] H4 := by
                intro H4 li4
                have := SK H4 _ li4 (by show q.1 + 1 ≤ q.1 + 1; omega) es
                dsimp only at this
                rw [← nI_add q.1 1] at this
                exact wp_at tX12_law [(239, [true, false, true, true, true, true, true])] 20 236 okM kX12_law this
              refine ⟨fun c4 => ?_, fun c4 => ?_⟩
              · have c5 : ¬ q.1 = 0 := fun w => c4 (by rw [w]; rfl)
                refine G H3 ?_
                rw [if_neg c5]
                exact ⟨li3.1, li3.2.1, li3.2.2.1, fun w => absurd w (by show ¬ q.1 + 1 = 0; omega), ql⟩
              · have c5 : q.1 = 0 := nI_inj (a := q.1) (b := 0) (by omega) (by omega) (nn c4)
                have q2 := qz c5
                have m3 := li3.2.1
                rw [q2] at m3
                have e9 : H3.1 12 0 9 = nI 0 := by rw [← re_f (n0 := n0) (by decide)]; exact m3.2.2.2.2.1.1
                refine ⟨_, c_tell0 e9 (by omega), ?_⟩
                rintro v H4 rfl
                have e91 : (tlH H3 0 (nI i).toInt64).1 12 0 9 = nI 1 := by unfold tlH; rw [rdX, if_pos (by simp)]
                refine ⟨_, c_tell0 e91 (by omega), ?_⟩
                rintro v H5 rfl
                refine G _ ?_
                rw [if_pos c5]
                have m4 : MI B (tlH (ReH H3 n0) 0 (nI i).toInt64) (uL g1 [(nI i).toInt64]) := m3.add (x := (nI i).toInt64)
                have m5 : MI B (tlH (tlH (ReH H3 n0) 0 (nI i).toInt64) 1 (nI j).toInt64) (uL g1 [(nI i).toInt64, (nI j).toInt64]) := m4.add (x := (nI j).toInt64)
                refine ⟨(li3.1.cg (fun k i hk => tl_row hk) (fun j hj => tl_f hj) rfl).cg (fun k i hk => tl_row hk) (fun j hj => tl_f hj) rfl, ?_, ?_, fun w => absurd w (by show ¬ q.1 + 1 = 0; omega), by show 2 ≤ 2; omega⟩
                · rw [re_tl, re_tl]; exact m5
                · rw [tl_row (by simp), tl_row (by simp)]; exact li3.2.2.1
          have nH := li.1.1
          have := IN (gN g - 1 - i) (i + 1) q H2 (by omega) (by omega) e (by omega) li
          rw [← nI_add i 1] at this
          exact wp_at tX12_law [(155, [true, false, true, true, true, true, true])] 20 140 okM kX12_law ⟨fun c => absurd c (by rw [nH]; exact nI_ge (show i < gN g by omega) (show gN g < 2 ^ 31 by omega)), fun _ => this⟩
      have C : ∀ t, t ≤ gTn g → ∀ H2, Fm [(43, 2)] [] H0 H2 → (∀ j, bytK (H2.1 43 2 j)) → (∀ j, j < t → H2.1 43 2 j = h1.1 43 0 j) → WP alM mX12_law (k + 312) P 103 [some (vR 12 0), some (vI (nI (gTn g))), some (vR 43 1), some (vI (nI n0)), some (vI (nI t)), none, none] [] H2 := by
        refine loop_up (gTn g) ?_ (fun t ht ih => ?_)
        · intro H2 fm2 e1 e2
          refine wp_at tX12_law [(140, [true, false, true, true, true, true, false])] 20 103 okM kX12_law ⟨fun _ => ?_, fun w => absurd (nI_le (Nat.le_refl _) (by omega)) w⟩
          have r2 : ∀ k i, (k, i) ≠ (12, 0) → (k, i) ≠ (43, 2) → (k, i) ∉ S1 → H2.1 k i = h1.1 k i := fun k i hk h43 hS => by rw [fm2.2.2.1 k i hk (by simpa using h43), r0 k i hk]; exact fm.2.2.1 k i hk hS
          have q2 : ∀ j, j ≠ 19 → j ∉ stI → H2.1 12 0 j = h1.1 12 0 j := fun j hj hS => by rw [fm2.2.2.2 j (by simp), q0 j hj]; exact fm.2.2.2 j hS
          have M2 : MI B (ReH H2 n0) g1 := by
            refine a1'.with (S := [(57, 0), (46, 0), (43, 2)]) (F := stI) (fun k i hk hS => ?_) (fun j hj => ?_) ⟨m61.symm, ?_⟩ (Or.inl ⟨by decide, by decide, rfl, rfl⟩) (Or.inl ⟨by decide, by decide, rfl⟩) (Or.inl ⟨by decide, by decide, rfl⟩) (Or.inl ⟨by decide, by decide, rfl⟩) (Or.inl ⟨?_, by decide, rfl⟩) (Or.inr ?_) (Or.inl ⟨by decide, by decide, rfl⟩) (Or.inl ⟨by decide, by decide, by decide, by decide, rfl⟩) (Or.inl ⟨by decide, by decide, rfl⟩) (Or.inl ⟨by decide, by decide, by decide, rfl⟩)
            · rw [re_row hk]
              exact r2 k i hk (fun w => hS (by rw [w]; simp)) (fun w => hS (by simp [S1] at w; simp; omega))
            · by_cases w : j = 19
              · subst w
                unfold ReH
                rw [rdX, if_pos (by simp), m65]
              · rw [re_f w]; exact q2 j w hj
            · show H2.2.2 4 = h1.2.2 4
              rw [fm2.2.1 4 (by decide), d0.2, m62]
            · show H2.2.1 = h1.2.1
              rw [fm2.1, hH0]
              exact fm.1
            · refine ⟨rfl, ?_, fun j => ?_, fun j => ?_, n0, hn0, ?_, ?_⟩
              · show H2.2.2 4 = 2
                rw [fm2.2.1 4 (by decide), d0.2]
              · rw [re_row (by simp), r2 43 1 (by simp) (by simp) (by simp [S1])]; exact m63 j
              · rw [re_row (by simp)]; exact e1 j
              · unfold ReH; rw [rdX, if_pos (by simp)]
              · rw [mT_cg ((re_row (by simp)).trans (r2 43 1 (by simp) (by simp) (by simp [S1])))]; exact m66
          have W2 : Wm H2 (uC g c) := by
            obtain ⟨x1, x2, x3, x4, x5, x6, x7, x8, x9, -⟩ := w1
            refine ⟨by rw [q2 1 (by decide) (by simp [stI])]; exact x1, x2, by rw [r2 41 0 (by simp) (by simp) (by simp [S1])]; exact x3, x4, by rw [q2 3 (by decide) (by simp [stI])]; exact x5, x6, by rw [r2 42 0 (by simp) (by simp) (by simp [S1])]; exact x7, x8, by rw [q2 5 (by decide) (by simp [stI])]; exact x9, 2, gTn g, Or.inr rfl, by rw [fm2.2.1 3 (by decide)]; exact d0.1, n40, by rw [fm2.2.2.2 19 (by simp), hH0, rdX, if_pos (by simp)], e1, ?_⟩
            show rdO (mT H2 2) (gTn g) = some c
            rw [← hO]
            refine (rdO_cg (fun j hj => ?_)).1
            rw [← hT j hj]
            unfold mT
            rw [e2 j hj, row0]
          have M3 := M2.clr
          rw [← re_9] at M3
          refine OU2 (gN g) 0 (0, []) (sX H2 12 0 9 (nI 0)) (by omega) rfl (Nat.zero_le _) ⟨W2.cg (fun k i hk => by rw [sX_row, if_neg (fun w => hk (by rw [w.1, w.2]))]) (fun j hj => by rw [rdX, if_neg (by simp [hj])]) rfl, M3, fun p q hpq hq => ?_, fun _ => rfl, Nat.zero_le _⟩
          rw [sX_row, if_neg (by simp), fm2.2.2.1 57 0 (by simp) (by simp), r0 57 0 (by simp)]
          exact fi p q hpq hq (Or.inl (by omega))
        · intro H2 fm2 e1 e2
          rw [← nI_add t 1] at ih
          have x3 : H2.2.2 3 = 2 := by rw [fm2.2.1 3 (by decide)]; exact d0.1
          have y0 : H2.1 43 0 = h1.1 43 0 := by rw [fm2.2.2.1 43 0 (by simp) (by simp), r0 43 0 (by simp)]; exact fm.2.2.1 43 0 (by simp) (by simp [S1])
          refine wp_at tX12_law [(103, [true, true, true, true, true, false, false])] 40 103 okM kX12_law ⟨fun w => absurd w (nI_ge ht (by omega)), fun _ => ?_⟩
          refine ⟨ix1 80 (by omega), by rw [x3]; exact ix1 40 (by omega), ?_⟩
          rw [nI_clamp (by omega), x3, y0, nar_byte]
          have hby : bytK (h1.1 43 0 t) := by rw [row0]; exact hb t
          rw [hby]
          refine ih _ (fm2.sX (by simp) (by decide)) (fun j => ?_) (fun j hj => ?_)
          · rw [rdX]
            by_cases w : j = t
            · subst w; rw [if_pos (by simp)]; exact hby
            · rw [if_neg (by simp [w])]; exact e1 j
          · rw [rdX]
            by_cases w : j = t
            · subst w; rw [if_pos (by simp)]
            · rw [if_neg (by simp [w])]; exact e2 j (by omega)
      have := C 0 (Nat.zero_le _) H0 Fm.rf (fun j => by rw [r0 43 2 (by simp), fm.2.2.1 43 2 (by simp) (by simp [S1])]; exact m64 j) (fun j hj => by omega)
      rw [hH0, ← s4, ← e19] at this
      rw [← s3] at this
      exact wp_at tX12_law [(103, [true, true, true, true, true, false, false])] 30 77 okM kX12_law this
    have OU : ∀ f i H, i + f = gN g → Fm S1 stI h1 H → FI i 0 H → WP alM mX12_law (k + 312) P 28 [some (vR 12 0), some (vI (nI (gTn g))), some (vI (nI i)), none, none, none, none] [] H := by
      intro f
      induction f with
      | zero =>
        intro i H hi fm fi
        have nH : H.1 12 0 1 = nI (gN g) := by rw [fm.2.2.2 1 (by simp [stI])]; exact w1.1
        obtain rfl : i = gN g := by omega
        exact wp_at tX12_law [(77, [true, true, false, false, false, false, false])] 20 28 okM kX12_law ⟨fun _ => N2 H fm fi, fun c => absurd (by rw [nH]; exact nI_le (Nat.le_refl _) (by omega)) c⟩
      | succ f IH =>
        intro i H hi fm fi
        have IN : ∀ f' j H, i < j → j + f' = gN g → Fm S1 stI h1 H → FI i j H → WP alM mX12_law (k + 312) P 40 [some (vR 12 0), some (vI (nI (gTn g))), some (vI (nI i)), some (vI (nI j)), none, none, none] [] H := by
          intro f'
          induction f' with
          | zero =>
            intro j H hij hj fm fi
            have nH : H.1 12 0 1 = nI (gN g) := by rw [fm.2.2.2 1 (by simp [stI])]; exact w1.1
            have := IH (i + 1) H (by omega) fm (fun p q h1 h2 h3 => fi p q h1 h2 (by omega))
            rw [← nI_add i 1] at this
            exact wp_at tX12_law [(28, [true, true, true, false, false, false, false])] 20 40 okM kX12_law ⟨fun _ => this, fun c => absurd (by rw [nH]; exact nI_le (show gN g ≤ j by omega) (by omega)) c⟩
          | succ f' IH2 =>
            intro j H hij hj fm fi
            have nH : H.1 12 0 1 = nI (gN g) := by rw [fm.2.2.2 1 (by simp [stI])]; exact w1.1
            have wH : Wm H g := w1.go fm (by simp [S1]) (by simp [S1]) (by simp [S1]) (by simp [S1]) (by simp [stI]) (by simp [stI]) (by simp [stI]) (by simp [stI])
            have i8 : nI 8 * nI i + nI j = nI (8 * i + j) := by rw [nI_mul, nI_add]
            refine wp_at tX12_law [(40, [true, true, true, true, false, false, false])] 40 40 okM kX12_law ⟨fun c => absurd c (by rw [nH]; exact nI_ge (by omega) (by omega)), fun _ => ⟨_, c_winsFirst wH (by rw [fm.2.2.1 40 0 (by simp) (by simp [S1])]; exact s40) (by omega) (by omega), ?_⟩⟩
            rintro v H1 ⟨rfl, fm1⟩
            refine ⟨by rw [i8]; exact ix1 64 (by omega), ?_⟩
            rw [i8, nI_clamp (by omega), nar_b]
            have fm2 : Fm S1 stI h1 H1 := fm.tr fm1 (by simp [stS, S1]) (fun _ h => h)
            have := IH2 (j + 1) (sX H1 57 0 (8 * i + j) (b2 (fwB (gC g) (gR g) (gS g) i j))) (by omega) (by omega) (fm2.sX (by simp [S1]) (by decide)) (fun p q h1 h2 h3 => by
              rw [rdX]
              by_cases w : p = i ∧ q = j
              · obtain ⟨rfl, rfl⟩ := w; rw [if_pos (by simp)]
              · rw [if_neg (by simp; omega), fm1.2.2.1 57 0 (by simp) (by simp [stS])]
                exact fi p q h1 h2 (by omega))
            rw [← nI_add j 1] at this
            exact this
        have := IN (gN g - 1 - i) (i + 1) H (by omega) (by omega) fm (fun p q h1 h2 h3 => fi p q h1 h2 (by omega))
        have nH : H.1 12 0 1 = nI (gN g) := by rw [fm.2.2.2 1 (by simp [stI])]; exact w1.1
        rw [← nI_add i 1] at this
        exact wp_at tX12_law [(40, [true, true, true, true, false, false, false])] 20 28 okM kX12_law ⟨fun c => absurd c (by rw [nH]; exact nI_ge (by omega) (by omega)), fun _ => this⟩
    exact OU (gN g) 0 h1 (by omega) Fm.rf (fun p q _ _ w => by omega)
  · have eA : aLaw g = -(nI 10000) - nI (rdR (gT g) (gTn g)).1 := by unfold aLaw; rw [hO]
    have eN : nLaw g = uT g (0, rdT (gT g) (gTn g)) := by unfold nLaw; rw [hO]
    rw [eA, eN]
    refine ⟨fun w => absurd rfl w, fun _ => ⟨?_, a1 _⟩⟩
    show vI (-(nI 10000) - h1.1 12 0 15) = _
    rw [e15]
