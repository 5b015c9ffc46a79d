/-! the reference: pairs tried -/
theorem smF_0 {f : Nat → Int32} : ∀ n, (∀ j, j < n → f j = nI 0) → smF f n = nI 0
  | 0, _ => rfl
  | n + 1, h => by rw [smF, smF_0 n (fun j hj => h j (by omega)), h n (by omega)]; rfl
theorem smF_2 {f : Nat → Int32} {a d : Nat} (hne : a ≠ d) : ∀ n, smF (fun j => if j = a ∨ j = d then f j else nI 0) n = (if a < n then f a else nI 0) + (if d < n then f d else nI 0)
  | 0 => rfl
  | n + 1 => by
    rw [smF, smF_2 hne n]
    have z1 : ∀ x : Int32, nI 0 + x = x := fun x => Int32.zero_add x
    have z2 : ∀ x : Int32, x + nI 0 = x := fun x => Int32.add_zero x
    by_cases c1 : n = a
    · subst c1
      rw [if_pos (Or.inl rfl), if_neg (show ¬ n < n by omega), if_pos (show n < n + 1 by omega), z1]
      by_cases c2 : d < n
      · rw [if_pos c2, if_pos (show d < n + 1 by omega), Int32.add_comm]
      · rw [if_neg c2, if_neg (show ¬ d < n + 1 by omega), z1, z2]
    · by_cases c2 : n = d
      · subst c2
        rw [if_pos (Or.inr rfl), if_neg (show ¬ n < n by omega), if_pos (show n < n + 1 by omega), z2]
        by_cases c3 : a < n
        · rw [if_pos c3, if_pos (show a < n + 1 by omega)]
        · rw [if_neg c3, if_neg (show ¬ a < n + 1 by omega)]
      · rw [if_neg (show ¬ (n = a ∨ n = d) by omega), z2]
        have e1 : (if a < n + 1 then f a else nI 0) = (if a < n then f a else nI 0) := by
          by_cases c : a < n
          · rw [if_pos c, if_pos (by omega)]
          · rw [if_neg c, if_neg (by omega)]
        have e2 : (if d < n + 1 then f d else nI 0) = (if d < n then f d else nI 0) := by
          by_cases c : d < n
          · rw [if_pos c, if_pos (by omega)]
          · rw [if_neg c, if_neg (by omega)]
        rw [e1, e2]
theorem fv_two {s : Sta} {a d : Nat} (ha : a < 8) (hd : d < 8) (hne : a ≠ d) : fvF s (bit a ||| bit d) 8 = s a + s d := by
  have h256 : 2 ^ a ||| 2 ^ d < 256 := Nat.or_lt_two_pow (n := 8) (Nat.pow_lt_pow_right (by decide) ha) (Nat.pow_lt_pow_right (by decide) hd)
  rw [bit_nI a (by omega), bit_nI d (by omega), nI_or]
  have e1 : fvF s (nI (2 ^ a ||| 2 ^ d)) 8 = csF s (nI (2 ^ a ||| 2 ^ d)) 8 := rfl
  rw [e1, csF_N h256 (by omega), smF_cong (g := fun j => if j = a ∨ j = d then s j else nI 0), smF_2 hne, if_pos ha, if_pos hd]
  intro j hj
  rw [Nat.testBit_or, Nat.testBit_two_pow, Nat.testBit_two_pow]
  by_cases c1 : a = j
  · rw [if_pos (by rw [dT c1]; rfl), if_pos (Or.inl c1.symm)]
  · by_cases c2 : d = j
    · rw [if_pos (by rw [dT c2, Bool.or_true]), if_pos (Or.inr c2.symm)]
    · rw [if_neg (by rw [dF c1, dF c2]; decide), if_neg (fun q => q.elim (fun w => c1 w.symm) (fun w => c2 w.symm))]
theorem gn_eq {g : GS} {s' : Sta} {a d : Nat} (ha : a < 8) (hd : d < 8) (hne : a ≠ d) : s' a + s' d - gS g a - gS g d = gnF g s' a d := by
  unfold gnF
  rw [fv_two ha hd hne, fv_two ha hd hne]
  rw [Int32.sub_eq_add_neg, Int32.sub_eq_add_neg, Int32.sub_eq_add_neg, Int32.neg_add, Int32.sub_eq_add_neg, Int32.add_assoc]
def tfS : List Ad := [(40, 2), (46, 0)]
def tfI : List Nat := [28, 29, 26, 12, 13, 14, 15, 20]
def tfP (g : GS) (s : Sta) (h : Hp) (one oth : Nat) : AV → Hp → Prop := fun v h' => v = vI (nI (wnG g s one oth)) ∧ Fm tfS tfI h h' ∧ h'.1 40 2 = mS (mtG g s one oth) ∧ h'.1 12 0 28 = mtG g s one oth one + mtG g s one oth oth - s one - s oth ∧ h'.1 12 0 29 = b2 (decide (mtG g s one oth (32 + (one + oth - wnG g s one oth)) = nI 1))
theorem c_tryFight {k one oth : Nat} {h : Hp} {g : GS} {s : Sta} (w : Wm h g) (hs : h.1 40 0 = mS s) (h1 : one < gN g) (h2 : oth < gN g) (hne : one ≠ oth) (pi : PI (gN g) s) (f1 : s (32 + one) = 0) (f2 : s (32 + oth) = 0) : Ct alM mX12_tryFight (k + 321) [vR 12 0, vR 40 0, vI (nI one), vI (nI oth)] h (tfP g s h one oth) := by
  have hn := w.2.1
  refine ct_vc tX12_tryFight [] 60 okM kX12_tryFight rfl ?_
  refine ⟨_, c_layS (by omega), ?_⟩
  rintro v h3 rfl
  rw [hs]
  have fm1 : Fm tfS tfI h (sV h 40 2 (mS s)) := Fm.rf.sV (by simp [tfS]) (by decide)
  have w1 : Wm (sV h 40 2 (mS s)) g := w.go fm1 (by simp [tfS]) (by simp [tfS]) (by simp [tfS]) (by simp [tfS]) (by simp [tfI]) (by simp [tfI]) (by simp [tfI]) (by simp [tfI])
  refine ⟨_, c_goFight w1 sV_same h1 h2 hne pi f1 f2, ?_⟩
  rintro v h4 ⟨rfl, fm4, e4, d4⟩
  have fm5 : Fm tfS tfI h h4 := fm1.tr fm4 (by simp [goS, tfS]) (by simp [goI, tfI])
  have r0 : h4.1 40 0 = mS s := by rw [fm4.2.2.1 40 0 (by simp) (by simp [goS]), rdV, if_neg (by simp), hs]
  refine ⟨ix1 47 (by omega), ix1 47 (by omega), ix1 47 (by omega), ix1 47 (by omega), ?_⟩
  rw [nI_clamp (show one < 2 ^ 31 by omega), nI_clamp (show oth < 2 ^ 31 by omega), e4, r0, mS_lo (by omega), mS_lo (by omega), mS_lo (by omega), mS_lo (by omega)]
  have e26 : ∀ x, (sX h4 12 0 28 x).1 12 0 26 = b2 (decide (mtG g s one oth (32 + (one + oth - wnG g s one oth)) = nI 1)) := fun x => by rw [rdX, if_neg (by simp)]; exact d4
  refine ⟨by rw [e26]; exact b2_01 _, rfl, (fm5.sF (by simp [tfI])).sF (by simp [tfI]), ?_, ?_, ?_⟩
  · rw [sX_row, if_neg (by simp), sX_row, if_neg (by simp)]; exact e4
  · rw [rdX, if_neg (by simp), rdX, if_pos (by simp)]
  · rw [rdX, if_pos (by simp), e26]
theorem MI.try_ {B : Nat} {h h' : Hp} {g : GS} (a : MI B h g) (f : Fm tfS tfI h h') : MI B h' g := a.scr f (by simp [tfS, scA]) (by simp [tfI, scI])
theorem m_Would {B D k : Nat} {h : Hp} {g : GS} {x y : Int32} (a : MI B h g) (z : Sz g) (iv : Inv D g) : Ct alM mX12_would (k + 322) [vR 12 0, vI x, vI y] h (fun v h' => v = vI (aWould g x y) ∧ MI B h' (nWould g x y)) := by
  have hn := z.1
  have a0 := a.fld (j := 10) (x := nI 0) (by decide)
  refine ct_vc tX12_would [] 80 okM kX12_would rfl ?_
  refine ⟨_, c_mrefuse a0.n1 hn a0.1.1, ?_⟩
  rintro v h1 ⟨rfl, rfl⟩
  unfold aWould nWould
  refine ⟨fun c => ?_, fun c => ?_⟩
  · have c' : hnF (gN g) (gS g) x y = 0 := Classical.byContradiction fun q => absurd (hnF_neg q) (i_ltn c)
    simp only [if_pos c']
    obtain ⟨p, q, hp, hq, hpq, rfl, rfl⟩ := hnF_in hn c'
    rw [nI_clamp (show p < 2 ^ 31 by omega), nI_clamp (show q < 2 ^ 31 by omega)]
    obtain ⟨-, -, -, f1, f2⟩ := hnF_yes hn c' (by omega) (by omega)
    refine ⟨_, c_tryFight (a0.ww z iv) a0.1.1 hp hq hpq iv.pi f1 f2, ?_⟩
    rintro v h3 ⟨rfl, fm3, e3, g3, d3⟩
    obtain ⟨s', hs'⟩ : ∃ s', mtG g (gS g) p q = s' := ⟨_, rfl⟩
    obtain ⟨wi, hwi⟩ : ∃ wi, wnG g (gS g) p q = wi := ⟨_, rfl⟩
    rw [hs'] at e3 g3 d3 ⊢
    rw [hwi] at d3 ⊢
    rw [gn_eq (by omega) (by omega) hpq] at g3
    have a3 := a0.try_ fm3
    have a4 := a3.clr
    refine ⟨_, c_tellR a4 (by show (0 : Nat) < 16; decide), ?_⟩
    rintro v h5 ⟨a5, k5, j5, -⟩
    have g28 : (sX h3 12 0 9 (nI 0)).1 12 0 28 = gnF g s' p q := by rw [rdX, if_neg (by simp)]; exact g3
    have r5 : h5.1 40 0 = mS (gS g) := a5.1.1
    have t5 : h5.1 40 2 = mS s' := by rw [k5 40 2 (by simp), sX_row, if_neg (by simp)]; exact e3
    refine ⟨ix1 47 (by omega), ix1 47 (by omega), _, c_tellR a5 (by show (1 : Nat) < 16; decide), ?_⟩
    rintro v h6 ⟨a6, k6, j6, -⟩
    have d6 : h6.1 12 0 29 = b2 (decide (s' (32 + (p + q - wi)) = nI 1)) := by rw [j6 29 (by simp), j5 29 (by simp), rdX, if_neg (by simp)]; exact d3
    rw [g28, nI_clamp (by omega), r5, t5, mS_41, mS_41] at a6
    unfold wdS
    refine ⟨fun c5 => ⟨?_, a6⟩, fun c5 => ⟨?_, a6⟩⟩
    · have c6 : h6.1 12 0 29 = 0 := c5
      rw [d6] at c6
      rw [if_neg (of_decide_eq_false (b2_0.mp c6))]
    · have c6 : ¬ h6.1 12 0 29 = 0 := c5
      rw [d6] at c6
      rw [if_pos (of_decide_eq_true (b2_n0.mp c6))]
  · have c' : ¬ hnF (gN g) (gS g) x y = 0 := fun q => c (by rw [q]; exact Int32.le_refl _)
    rw [if_neg c', if_neg c']
    exact ⟨rfl, a0⟩
theorem can_z {s : Sta} {j : Nat} (h : canF s j = true) : s (32 + j) = 0 := of_decide_eq_true (and3 h).1
theorem m_Beats {B D k : Nat} {h : Hp} {g : GS} {x : Int32} (a : MI B h g) (z : Sz g) (iv : Inv D g) : Ct alM mX12_beats (k + 322) [vR 12 0, vI x] h (fun v h' => v = vI (aBeats g x) ∧ MI B h' (nBeats g x)) := by
  have hn := z.1
  have a0 := a.fld (j := 10) (x := nI 0) (by decide)
  refine ct_vc tX12_beats [(37, [true, true, true, true, true])] 80 okM kX12_beats rfl ?_
  refine ⟨_, c_isMan a0.n1 hn, ?_⟩
  rintro v h1 ⟨rfl, rfl⟩
  unfold aBeats nBeats
  refine ⟨fun c => ?_, fun c => ?_⟩
  · have c' := b2_n0.mp c
    simp only [if_pos c']
    obtain ⟨p, hp, rfl⟩ := hasN_get c' (by omega)
    rw [nI_clamp (show p < 2 ^ 31 by omega)]
    refine ⟨_, c_mcan a0.1.1 (by omega), ?_⟩
    rintro v h1 ⟨rfl, rfl⟩
    refine ⟨fun c2 => ?_, fun c2 => ?_⟩
    · have cp := b2_n0.mp c2
      simp only [if_pos cp]
      have L : ∀ t, t ≤ gN g → ∀ H, MI B H g → WP alM mX12_beats (k + 322) (fun v h' => v = vI (btS g p (gN g)).1 ∧ MI B h' (uL g [(btS g p (gN g)).2.toInt64])) 37 [some (vR 12 0), some (vI (nI p)), some (vI (btS g p t).1), some (vI (btS g p t).2), some (vI (nI t))] [] H := by
        refine loop_up (gN g) ?_ (fun t ht ih => ?_)
        · intro H aH
          refine wp_at tX12_beats [] 40 37 okM kX12_beats ⟨fun _ => ⟨_, c_tellR aH.clr (by show (0 : Nat) < 16; decide), ?_⟩, fun c => absurd (by rw [aH.n1]; exact nI_le (Nat.le_refl _) (by omega)) c⟩
          rintro v h3 ⟨a3, -⟩
          exact ⟨rfl, a3⟩
        · intro H aH
          rw [← nI_add t 1] at ih
          have es : btS g p (t + 1) = if aFight g (nI p) (nI t) = nI p then ((btS g p t).1 ||| bit t, (btS g p t).2 + (if mtG g (gS g) p t (32 + t) = nI 1 then nI 1 else nI 0)) else btS g p t := rfl
          have NO : ∀ H, MI B H g → ¬ aFight g (nI p) (nI t) = nI p → WP alM mX12_beats (k + 322) (fun v h' => v = vI (btS g p (gN g)).1 ∧ MI B h' (uL g [(btS g p (gN g)).2.toInt64])) 105 [some (vR 12 0), some (vI (nI p)), some (vI (btS g p t).1), some (vI (btS g p t).2), some (vI (nI t))] [] H := by
            intro H aH hno
            have := ih H aH
            rw [es, if_neg hno] at this
            exact wp_at tX12_beats [(37, [true, true, true, true, true])] 20 105 okM kX12_beats this
          have NH : ¬ hnF (gN g) (gS g) (nI p) (nI t) = 0 → ¬ aFight g (nI p) (nI t) = nI p := fun q w => q (aFight_win (by omega) w)
          refine wp_at tX12_beats [(105, [true, true, true, true, true]), (103, [true, true, true, false, true])] 80 37 okM kX12_beats ⟨fun c => absurd c (by rw [aH.n1]; exact nI_ge ht (by omega)), fun _ => ⟨fun c3 => NO H aH (NH (fun w => ?_)), fun c3 => ⟨_, c_mcan aH.1.1 (by omega), ?_⟩⟩⟩
          · obtain ⟨-, -, hne, -⟩ := hnF_yes hn w (by omega) (by omega)
            exact hne (nI_inj (by omega) (by omega) c3).symm
          · rintro v H1 ⟨rfl, rfl⟩
            have hne : p ≠ t := fun w => c3 (by rw [w])
            have hc := hnF_can (g := g) (s := gS g) hn hp ht hne
            refine ⟨fun c4 => NO H1 aH (NH (fun w => by rw [(hc.mp w).2] at c4; exact absurd c4 (by decide))), fun c4 => ?_⟩
            have ct := b2_n0.mp c4
            have hz := hc.mpr ⟨cp, ct⟩
            refine ⟨_, c_tryFight (aH.ww z iv) aH.1.1 hp ht hne iv.pi (can_z cp) (can_z ct), ?_⟩
            rintro v H2 ⟨rfl, fm2, e2, g2, d2⟩
            have a2 := aH.try_ fm2
            have eA : aFight g (nI p) (nI t) = nI (wnG g (gS g) p t) := by unfold aFight; rw [if_pos hz, nI_clamp (by omega), nI_clamp (by omega)]
            have hw : wnG g (gS g) p t = p ∨ wnG g (gS g) p t = t := wnF_in
            refine ⟨fun c5 => ?_, fun c5 => NO H2 a2 (by rw [eA]; exact c5)⟩
            have hyes : aFight g (nI p) (nI t) = nI p := by rw [eA]; exact c5
            have wp : wnG g (gS g) p t = p := nI_inj (by omega) (by omega) c5
            rw [wp, Nat.add_sub_cancel_left] at d2
            have := ih H2 a2
            rw [es, if_pos hyes] at this
            have F : ∀ m, (if mtG g (gS g) p t (32 + t) = nI 1 then nI 1 else nI 0) = m → WP alM mX12_beats (k + 322) (fun v h' => v = vI (btS g p (gN g)).1 ∧ MI B h' (uL g [(btS g p (gN g)).2.toInt64])) 103 [some (vR 12 0), some (vI (nI p)), some (vI ((btS g p t).1 ||| bit t)), none, some (vI (nI t))] [vI m, vI (btS g p t).2] H2 := by
              intro m hm
              rw [hm] at this
              exact wp_at tX12_beats [(37, [true, true, true, true, true])] 20 103 okM kX12_beats this
            refine ⟨fun c6 => F _ ?_, fun c6 => F _ ?_⟩
            · have c7 : H2.1 12 0 29 = 0 := c6
              rw [d2] at c7
              rw [if_neg (of_decide_eq_false (b2_0.mp c7))]
            · have c7 : ¬ H2.1 12 0 29 = 0 := c6
              rw [d2] at c7
              rw [if_pos (of_decide_eq_true (b2_n0.mp c7))]
      exact L 0 (Nat.zero_le _) _ a0
    · have cp : ¬ canF (gS g) p = true := by rw [b2_0.mp (nn c2)]; decide
      simp only [if_neg cp]
      exact ⟨rfl, a0⟩
  · have c' : ¬ hasN x (gN g) = true := by rw [b2_0.mp (nn c)]; decide
    simp only [if_neg c']
    exact ⟨rfl, a0⟩
theorem mt_16 {g : GS} {s : Sta} {one oth : Nat} (hn : gN g ≤ 8) (hR : RoK (gR g) (gN g)) (h1 : one < gN g) (h2 : oth < gN g) (hne : one ≠ oth) : mtG g s one oth (16 + one) = s (16 + one) + nI 1 := by
  have cs := wl_cs (g := g) (s := s) (one := one) (oth := oth)
  obtain ⟨wi, hwi⟩ : ∃ wi, wi = wnG g s one oth := ⟨_, rfl⟩
  obtain ⟨lo, hlo⟩ : ∃ lo, lo = one + oth - wnG g s one oth := ⟨_, rfl⟩
  rw [← hlo, ← hwi] at cs
  have wi8 : wi < gN g := by rcases cs with ⟨r, -⟩ | ⟨r, -⟩ <;> omega
  have lo8 : lo < gN g := by rcases cs with ⟨-, r⟩ | ⟨-, r⟩ <;> omega
  have o4 := (own4 hR lo8).1
  have eM : mtG g s one oth = hsF (gW g) (hsF (gW g) (jgF (gR g) (nI (lsG g)) (m3F (exF (gR g) (pyH (gR g) (pyH (gR g) s one) oth) wi lo) one oth wi lo) lo) one) oth := by rw [hwi, hlo]; rfl
  rw [eM, hs_o (by omega), hs_o (by omega), jg_o (by omega) (by omega) (by omega), m3_1 hne (by omega) (by omega) (by omega), ex_o (by omega) (by omega) (by omega), py_o hR h2 (by omega), py_o hR h1 (by omega)]
theorem m_Sword {B D k : Nat} {h : Hp} {g : GS} {x y : Int32} (a : MI B h g) (z : Sz g) (iv : Inv D g) : Ct alM mX12_sword (k + 321) [vR 12 0, vI x, vI y] h (fun v h' => v = vI (aSword g x y) ∧ MI B h' g) := by
  have hn := z.1
  have a0 := a.fld (j := 10) (x := nI 0) (by decide)
  refine ct_vc tX12_sword [(46, [true, true, true, true])] 80 okM kX12_sword rfl ?_
  refine ⟨_, c_areTwo a0.n1 hn, ?_⟩
  rintro v h1 ⟨rfl, rfl⟩
  unfold aSword
  refine ⟨fun c => ?_, fun c => ?_⟩
  · have c' := b2_n0.mp c
    obtain ⟨q0, q3⟩ := and3 c'
    obtain ⟨q1, q2⟩ := and3 q0
    have q3' : ¬ x = y := by simpa using q3
    simp only [if_pos (show hasN x (gN g) = true ∧ hasN y (gN g) = true ∧ x ≠ y from ⟨q1, q2, q3'⟩)]
    obtain ⟨p, hp, rfl⟩ := hasN_get q1 (by omega)
    obtain ⟨q, hq, rfl⟩ := hasN_get q2 (by omega)
    have hpq : p ≠ q := fun w => q3' (by rw [w])
    rw [nI_clamp (show p < 2 ^ 31 by omega), nI_clamp (show q < 2 ^ 31 by omega)]
    refine ⟨_, c_mrefuse a0.n1 hn a0.1.1, ?_⟩
    rintro v h1 ⟨rfl, rfl⟩
    refine ⟨fun c2 => ⟨_, c_layS (by omega), ?_⟩, fun c2 => ?_⟩
    · have c2' : hnF (gN g) (gS g) (nI p) (nI q) = 0 := Classical.byContradiction fun w => absurd (hnF_neg w) (i_ltn c2)
      rw [a0.1.1]
      rintro v h2 rfl
      simp only [if_pos c2']
      have L : ∀ f i s H, i + f = 10 → 1 ≤ i → MI B H g → H.1 40 2 = mS s → PI (gN g) s → i ≤ foN s p + 1 → swR g p q 9 1 (gS g) = swR g p q f i s → WP alM mX12_sword (k + 321) (fun v h' => v = vI (swR g p q 9 1 (gS g)) ∧ MI B h' g) 46 [some (vR 12 0), some (vI (nI p)), some (vI (nI q)), some (vI (nI (i - 1)))] [] H := by
        intro f
        induction f with
        | zero =>
          intro i s H hi hi1 aH er pi hfo e
          have nz : ¬ hnF (gN g) s (nI p) (nI q) = 0 := by
            intro w
            obtain ⟨-, -, -, f1, -⟩ := hnF_yes hn w (by omega) (by omega)
            have := (pi.1 p hp).2.2.1 f1
            omega
          refine wp_at tX12_sword [] 30 46 okM kX12_sword ⟨_, c_mrefuse aH.n1 hn er, ?_⟩
          rintro v H1 ⟨rfl, rfl⟩
          exact ⟨fun _ => ⟨by rw [e]; rfl, aH⟩, fun c => absurd (nn c) nz⟩
        | succ f ih =>
          intro i s H hi hi1 aH er pi hfo e
          rw [swR_s g p q f i s] at e
          refine wp_at tX12_sword [(46, [true, true, true, true])] 60 46 okM kX12_sword ⟨_, c_mrefuse aH.n1 hn er, ?_⟩
          rintro v H1 ⟨rfl, rfl⟩
          refine ⟨fun c3 => ?_, fun c3 => ?_⟩
          · rw [if_neg (show ¬ hnF (gN g) s (nI p) (nI q) = 0 from c3)] at e
            exact ⟨congrArg vI e.symm, aH⟩
          · have c3' : hnF (gN g) s (nI p) (nI q) = 0 := nn c3
            rw [if_pos c3'] at e
            obtain ⟨-, -, -, f1, f2⟩ := hnF_yes hn c3' (by omega) (by omega)
            refine ⟨_, c_goFight (aH.ww z iv) er hp hq hpq pi f1 f2, ?_⟩
            rintro v H2 ⟨rfl, fm2, e2, -⟩
            have a2 : MI B H2 g := aH.scr fm2 (by simp [goS, scA]) (by simp [goI, scI])
            obtain ⟨pi2, -, -⟩ := PI_mt hn z.r iv.sw hp hq hpq pi f1 f2
            have fo2 : foN (mtG g s p q) p = foN s p + 1 := by
              have := (pi.1 p hp)
              show (mtG g s p q (16 + p)).toNatClampNeg = foN s p + 1
              rw [mt_16 hn z.r hp hq hpq, this.1, nI_add, nI_clamp (by have := this.2.1; omega)]
            have e32 : H2.1 40 2 (nI 32 + nI p).toNatClampNeg = mtG g s p q (32 + p) := by rw [ixC (by omega), e2, mS_lo (by omega)]
            have ei : nI (i - 1) + nI 1 = nI i := by rw [nI_add, show i - 1 + 1 = i by omega]
            refine ⟨ixN 47 (by omega), ?_⟩
            rw [e32]
            refine ⟨fun c4 => ⟨_, c_goDays a2.n1 hn e2, ?_⟩, fun c4 => ?_⟩
            · rintro v H3 rfl
              rw [if_neg (show ¬ mtG g s p q (32 + p) = nI 2 from c4)] at e
              have a3 : MI B (sV H2 40 2 (mS (psF (gN g) (mtG g s p q) (nI 1)))) g := a2.scr (S := [(40, 2)]) (F := []) (Fm.rf.sV (by simp) (by decide)) (by simp [scA]) (by simp)
              have := ih (i + 1) (psF (gN g) (mtG g s p q) (nI 1)) _ (by omega) (by omega) a3 sV_same (PI_ps hn pi2) (by
                have : foN (psF (gN g) (mtG g s p q) (nI 1)) p = foN (mtG g s p q) p := by unfold foN; rw [ps_o hn (by omega)]
                omega) e
              rw [Nat.add_sub_cancel, ← ei] at this
              exact this
            · rw [if_pos (show mtG g s p q (32 + p) = nI 2 from nn c4)] at e
              refine ⟨?_, a2⟩
              rw [e, ← ei]
      have a2 : MI B (sV (sX h 12 0 10 (nI 0)) 40 2 (mS (gS g))) g := a0.scr (S := [(40, 2)]) (F := []) (Fm.rf.sV (by simp) (by decide)) (by simp [scA]) (by simp)
      exact L 9 1 (gS g) _ rfl (by omega) a2 sV_same iv.pi (by omega) rfl
    · have c2' : ¬ hnF (gN g) (gS g) (nI p) (nI q) = 0 := fun w => c2 (by rw [w]; exact Int32.le_refl _)
      rw [if_neg c2']
      exact ⟨rfl, a0⟩
  · have c' := b2_0.mp (nn c)
    rw [if_neg (fun w => by rw [w.1, w.2.1, dF w.2.2] at c'; cases c')]
    exact ⟨rfl, a0⟩
