/-! the reference: worth, hires, what was heard, rests -/
theorem m_Worth {B D k : Nat} {h : Hp} {g : GS} {x : Int32} (a : MI B h g) (z : Sz g) (iv : Inv D g) : Ct alM mX12_worth (k + 4) [vR 12 0, vI x] h (fun v h' => v = vI (aWorth g x) ∧ MI B h' (nWorth g x)) := by
  have hn := z.1
  have a0 := a.fld (j := 10) (x := nI 0) (by decide)
  obtain ⟨h0, hh0⟩ : ∃ h0, sX h 12 0 10 (nI 0) = h0 := ⟨_, rfl⟩
  rw [hh0] at a0
  have w0 := a0.ww z iv
  have L : hasN x 4 = true → ∀ t, t ≤ gN g → WP alM mX12_worth (k + 4) (fun v h' => v = vI (aWorth g x) ∧ MI B h' (nWorth g x)) 29 [some (vR 12 0), some (vI x), some (vI (woS g x t).1), some (vI (woS g x t).2.1), some (vI (woS g x t).2.2.1), some (vI (woS g x t).2.2.2), some (vI (nI t)), none] [] h0 := by
    intro hx
    unfold aWorth nWorth
    rw [if_pos hx, if_pos hx]
    refine loop_up (gN g) ?_ (fun t ht ih => ?_)
    · refine wp_at tX12_worth [] 40 29 okM kX12_worth ⟨fun _ => ⟨_, c_tellR a0.clr (by show (0 : Nat) < 16; decide), ?_⟩, fun c => absurd (by rw [a0.n1]; exact nI_le (Nat.le_refl _) (by omega)) c⟩
      rintro v h3 ⟨a3, -⟩
      refine ⟨_, c_tellR a3 (by show (1 : Nat) < 16; decide), ?_⟩
      rintro v h4 ⟨a4, -⟩
      exact ⟨rfl, a4⟩
    · rw [← nI_add t 1] at ih
      have NO : ¬ (gR g 3 t = x ∧ gS g (32 + t) = 0) → WP alM mX12_worth (k + 4) (fun v h' => v = vI (woS g x (gN g)).1 ∧ MI B h' (uL g [(woS g x (gN g)).2.1.toInt64, (woS g x (gN g)).2.2.1.toInt64])) 119 [some (vR 12 0), some (vI x), some (vI (woS g x t).1), some (vI (woS g x t).2.1), some (vI (woS g x t).2.2.1), some (vI (woS g x t).2.2.2), some (vI (nI t)), none] [] h0 := by
        intro hno
        rw [woS, if_neg hno] at ih
        exact wp_at tX12_worth [(29, [true, true, true, true, true, true, true, false])] 10 119 okM kX12_worth ih
      have e32 : h0.1 40 0 (nI 32 + nI t).toNatClampNeg = gS g (32 + t) := by rw [ixC (by omega), a0.1.1, mS_lo (by omega)]
      refine wp_at tX12_worth [(119, [true, true, true, true, true, true, true, false]), (84, [true, true, true, true, true, true, true, false])] 60 29 okM kX12_worth ⟨fun c => absurd c (by rw [a0.n1]; exact nI_ge ht (by omega)), fun _ => ⟨_, c_owner w0 ht, ?_⟩⟩
      rintro v h' ⟨rfl, rfl⟩
      refine ⟨fun c => NO (fun w => c w.1), fun c => ⟨ixN 47 (by omega), fun c2 => ?_, fun c2 => NO (fun w => c2 (by rw [e32]; exact w.2))⟩⟩
      have hyes : gR g 3 t = x ∧ gS g (32 + t) = 0 := ⟨nn c, by rw [← e32]; exact c2⟩
      rw [woS, if_pos hyes] at ih
      obtain ⟨fv, hfv, efv⟩ := iv.fav ht
      have F : ∀ m, (if spL g (gS g t) = true then nI 20 else nI 50) = m → WP alM mX12_worth (k + 4) (fun v h' => v = vI (woS g x (gN g)).1 ∧ MI B h' (uL g [(woS g x (gN g)).2.1.toInt64, (woS g x (gN g)).2.2.1.toInt64])) 84 [some (vR 12 0), some (vI x), some (vI (woS g x t).1), some (vI (woS g x t).2.1), some (vI (woS g x t).2.2.1), some (vI (woS g x t).2.2.2), some (vI (nI t)), none] [vI m] h' := by
        intro m hm
        have ep : m * gR g 2 t = woP g t := by unfold woP; rw [hm, Int32.mul_comm]
        refine wp_at tX12_worth [(29, [true, true, true, true, true, true, true, false])] 40 84 okM kX12_worth ⟨_, c_mhire w0 ht, ?_⟩
        rintro v h2 ⟨rfl, rfl⟩
        refine ⟨fun c3 => ?_, fun c3 => ?_⟩
        · have c3' : (woS g x t).2.2.2 < woP g t := by rw [← ep]; exact c3
          rw [if_pos c3', if_pos c3', ← ep] at ih
          exact ih
        · have c3' : ¬ (woS g x t).2.2.2 < woP g t := by rw [← ep]; exact c3
          rw [if_neg c3', if_neg c3', ← ep] at ih
          exact ih
      refine ⟨_, c_misNow w0 a0.1.1 (by omega) hfv efv, ?_⟩
      rintro v h' ⟨rfl, rfl⟩
      refine ⟨fun c3 => F _ ?_, fun c3 => F _ ?_⟩
      · rw [b2_0.mp c3]; rfl
      · rw [b2_n0.mp c3]; rfl
  refine ct_vc tX12_worth [(5, [true, true, false, false, false, false, false, false])] 10 okM kX12_worth rfl ?_
  show WP alM mX12_worth (k + 4) _ 5 [some (vR 12 0), some (vI x), none, none, none, none, none, none] [] (sX h 12 0 10 (nI 0))
  rw [hh0]
  refine wp_at tX12_worth [(29, [true, true, true, true, true, true, true, false])] 40 5 okM kX12_worth ⟨_, c_min, ?_⟩
  rw [in03]
  rintro v h' ⟨rfl, rfl⟩
  refine ⟨fun c => L (b2_n0.mp c) 0 (Nat.zero_le _), fun c => ?_⟩
  unfold aWorth nWorth
  simp only [if_neg (show ¬ hasN x 4 = true by rw [b2_0.mp (nn c)]; decide)]
  exact ⟨rfl, a0⟩
theorem c_hiresOf {k m : Nat} {h : Hp} {g : GS} (w : Wm h g) (hm : m < 256) : Ct alM mX12_hiresOf (k + 1) [vR 12 0, vI (nI m)] h (Rd h (csF (gR g 2) (nI m) (gN g))) := by
  have hn := w.2.1
  rw [csF_N hm hn]
  have L : ∀ t, t ≤ gN g → WP alM mX12_hiresOf (k + 1) (Rd h (smF (fun j => if m.testBit j = true then gR g 2 j else nI 0) (gN g))) 4 [some (vR 12 0), some (vI (nI m)), some (vI (smF (fun j => if m.testBit j = true then gR g 2 j else nI 0) t)), some (vI (nI t))] [] h := by
    refine loop_up (gN g) ?_ (fun t ht ih => ?_)
    · exact wp_at tX12_hiresOf [] 20 4 okM kX12_hiresOf ⟨fun _ => ⟨rfl, rfl⟩, fun c => absurd (by rw [w.1]; exact nI_le (Nat.le_refl _) (by omega)) c⟩
    · rw [smF, ← nI_add t 1] at ih
      refine wp_at tX12_hiresOf [(4, [true, true, true, true])] 40 4 okM kX12_hiresOf ⟨fun c => absurd c (by rw [w.1]; exact nI_ge ht (by omega)), fun _ => ⟨_, c_mhas, ?_⟩⟩
      rintro v h' ⟨rfl, rfl⟩
      rw [hsB_tb hm (by omega)]
      refine ⟨fun c => ?_, fun c => ⟨_, c_mhire w ht, ?_⟩⟩
      · rw [if_neg (by rw [b2_0.mp c]; decide)] at ih; exact ih
      · rintro v h' ⟨rfl, rfl⟩
        rw [if_pos (b2_n0.mp c)] at ih
        exact ih
  refine ct_vc tX12_hiresOf [(4, [true, true, true, true])] 20 okM kX12_hiresOf rfl ?_
  exact L 0 (Nat.zero_le _)
theorem fv_n {s : Sta} {m n : Nat} (hn : n ≤ 8) (hm : m < 2 ^ n) : fvF s (nI m) 8 = smF (fun j => if m.testBit j = true then s j else nI 0) n := by
  have h256 : m < 256 := Nat.lt_of_lt_of_le hm (p2_le hn)
  have e1 : fvF s (nI m) 8 = csF s (nI m) 8 := rfl
  rw [e1, csF_N h256 (by omega)]
  have : ∀ d, n + d ≤ 8 → smF (fun j => if m.testBit j = true then s j else nI 0) (n + d) = smF (fun j => if m.testBit j = true then s j else nI 0) n := by
    intro d
    induction d with
    | zero => intro _; rfl
    | succ d ih =>
      intro hd
      have hf : m.testBit (n + d) = false := Nat.testBit_lt_two_pow (Nat.lt_of_lt_of_le hm (Nat.pow_le_pow_right (by decide) (by omega)))
      rw [← Nat.add_assoc, smF, ih (by omega), if_neg (by rw [hf]; decide)]
      exact Int32.add_zero _
  have q := this (8 - n) (by omega)
  rw [show n + (8 - n) = 8 by omega] at q
  exact q
theorem c_favoursOf {k m : Nat} {h : Hp} {g : GS} (w : Wm h g) (hs : h.1 40 0 = mS (gS g)) (hm : m < 2 ^ gN g) : Ct alM mX12_favoursOf (k + 1) [vR 12 0, vI (nI m)] h (Rd h (fvF (gS g) (nI m) 8)) := by
  have hn := w.2.1
  have h256 : m < 256 := Nat.lt_of_lt_of_le hm (p2_le hn)
  rw [fv_n hn hm]
  have L : ∀ t, t ≤ gN g → WP alM mX12_favoursOf (k + 1) (Rd h (smF (fun j => if m.testBit j = true then gS g j else nI 0) (gN g))) 4 [some (vR 12 0), some (vI (nI m)), some (vI (smF (fun j => if m.testBit j = true then gS g j else nI 0) t)), some (vI (nI t))] [] h := by
    refine loop_up (gN g) ?_ (fun t ht ih => ?_)
    · exact wp_at tX12_favoursOf [] 20 4 okM kX12_favoursOf ⟨fun _ => ⟨rfl, rfl⟩, fun c => absurd (by rw [w.1]; exact nI_le (Nat.le_refl _) (by omega)) c⟩
    · rw [smF, ← nI_add t 1] at ih
      refine wp_at tX12_favoursOf [(4, [true, true, true, true])] 40 4 okM kX12_favoursOf ⟨fun c => absurd c (by rw [w.1]; exact nI_ge ht (by omega)), fun _ => ⟨_, c_mhas, ?_⟩⟩
      rintro v h' ⟨rfl, rfl⟩
      rw [hsB_tb h256 (by omega)]
      refine ⟨fun c => ?_, fun c => ⟨ix1 47 (by omega), ?_⟩⟩
      · rw [if_neg (by rw [b2_0.mp c]; decide)] at ih; exact ih
      · rw [nI_clamp (by omega), hs, mS_lo (by omega)]
        rw [if_pos (b2_n0.mp c)] at ih
        exact ih
  refine ct_vc tX12_favoursOf [(4, [true, true, true, true])] 20 okM kX12_favoursOf rfl ?_
  exact L 0 (Nat.zero_le _)
theorem hrS_nI {g : GS} {e : Nat} {n : Int32} : ∀ t, ∃ m, m ≤ t ∧ hrS g e n t = nI m
  | 0 => ⟨0, by omega, rfl⟩
  | t + 1 => by
    rw [hrS]
    split
    · exact ⟨t + 1, by omega, rfl⟩
    · obtain ⟨m, h1, h2⟩ := hrS_nI (g := g) (e := e) (n := n) t
      exact ⟨m, by omega, h2⟩
theorem m_Hires {B D k : Nat} {h : Hp} {g : GS} {n : Int32} (a : MI B h g) (z : Sz g) (iv : Inv D g) : Ct alM mX12_hires (k + 3) [vR 12 0, vI n] h (fun v h' => v = vI (aHires g n) ∧ MI B h' (nHires g n)) := by
  have hn := z.1
  have hab : abN g < 2 ^ gN g := bsN_lt _
  have he : abN g < 256 := abN_lt z
  have a0 := a.fld (j := 10) (x := nI 0) (by decide)
  obtain ⟨h0, hh0⟩ : ∃ h0, sX h 12 0 10 (nI 0) = h0 := ⟨_, rfl⟩
  rw [hh0] at a0
  have w0 := a0.ww z iv
  have L2 : okH n = true → ∀ t, t ≤ abN g → WP alM mX12_hires (k + 3) (fun v h' => v = vI (aHires g n) ∧ MI B h' (nHires g n)) 62 [some (vR 12 0), some (vI n), some (vI (nI (abN g))), some (vI (hrS g (abN g) n t)), some (vI (nI (t + 1))), none] [] h0 := by
    intro hok
    unfold aHires nHires
    rw [if_pos hok, if_pos hok]
    refine loop_up (abN g) ?_ (fun t ht ih => ?_)
    · obtain ⟨m, hm, em⟩ := hrS_nI (g := g) (e := abN g) (n := n) (abN g)
      refine wp_at tX12_hires [] 40 62 okM kX12_hires ⟨fun _ => ⟨_, c_tellR a0.clr (by show (0 : Nat) < 16; decide), ?_⟩, fun c => absurd (nI_lt (Nat.lt_succ_self _) (by omega)) c⟩
      rintro v h3 ⟨a3, -⟩
      have w3 : Wm h3 g := a3.w (g := uL g _) ⟨z.1, z.2.1, z.2.2.1, by show (1 : Nat) ≤ 8; decide, z.2.2.2.2⟩ iv.1
      rw [em] at a3 ⊢
      refine ⟨_, c_hiresOf w3 (by omega), ?_⟩
      rintro v h4 ⟨rfl, rfl⟩
      refine ⟨_, c_tellR a3 (by show (1 : Nat) < 16; decide), ?_⟩
      rintro v h5 ⟨a5, -⟩
      refine ⟨_, c_bitCount okM, ?_⟩
      rintro v h6 ⟨rfl, rfl⟩
      exact ⟨rfl, a5⟩
    · have es : hrS g (abN g) n (t + 1) = if (nI (t + 1) &&& (nI (abN g) ^^^ -(nI 1)) = 0 ∧ csF (gR g 2) (nI (t + 1)) (gN g) ≤ n) ∧ bhB g (nI (t + 1)) (hrS g (abN g) n t) = true then nI (t + 1) else hrS g (abN g) n t := rfl
      rw [es, ← nI_add (t + 1) 1] at ih
      obtain ⟨m, hm, em⟩ := hrS_nI (g := g) (e := abN g) (n := n) t
      refine wp_at tX12_hires [(62, [true, true, true, true, true, false]), (126, [true, true, true, true, true, false])] 80 62 okM kX12_hires ⟨fun c => absurd c (nI_nlt (by omega) (by omega)), fun _ => ⟨fun c => ?_, fun c => ⟨_, c_hiresOf w0 (by omega), ?_⟩⟩⟩
      · rw [if_neg (fun q => c q.1.1)] at ih; exact ih
      · rintro v h2 ⟨rfl, rfl⟩
        have YES : bhB g (nI (t + 1)) (hrS g (abN g) n t) = true → csF (gR g 2) (nI (t + 1)) (gN g) ≤ n → WP alM mX12_hires (k + 3) (fun v h' => v = vI (bcF (hrS g (abN g) n (abN g))) ∧ MI B h' (uL g [(hrS g (abN g) n (abN g)).toInt64, (csF (gR g 2) (hrS g (abN g) n (abN g)) (gN g)).toInt64])) 126 [some (vR 12 0), some (vI n), some (vI (nI (abN g))), some (vI (hrS g (abN g) n t)), some (vI (nI (t + 1))), none] [] h2 := by
          intro hb hc
          rw [if_pos ⟨⟨nn c, hc⟩, hb⟩] at ih
          exact wp_at tX12_hires [(62, [true, true, true, true, true, false])] 20 126 okM kX12_hires ih
        refine ⟨fun c2 => ⟨_, c_bitCount okM, ?_⟩, fun c2 => ?_⟩
        · rintro v h3 ⟨rfl, rfl⟩
          refine ⟨_, c_bitCount okM, ?_⟩
          rintro v h3 ⟨rfl, rfl⟩
          refine ⟨fun c3 => YES ?_ c2, fun c3 => ⟨fun c4 => ?_, fun c4 => ⟨_, c_favoursOf w0 a0.1.1 (by omega), ?_⟩⟩⟩
          · unfold bhB; rw [dT c3]; rfl
          · have nb : ¬ bhB g (nI (t + 1)) (hrS g (abN g) n t) = true := by unfold bhB; rw [dF c3, dF c4]; simp
            rw [if_neg (fun q => nb q.2)] at ih; exact ih
          · rintro v h4 ⟨rfl, rfl⟩
            refine ⟨_, ct_cv (c_favoursOf (m := m) w0 a0.1.1 (by omega)) (congrArg (fun x => [vR 12 0, vI x]) em) rfl, ?_⟩
            rintro v h4 ⟨rfl, rfl⟩
            refine ⟨fun c5 => ?_, fun c5 => YES ?_ c2⟩
            · have nb : ¬ bhB g (nI (t + 1)) (hrS g (abN g) n t) = true := by
                unfold bhB
                rw [dF c3, dT (nn c4), em, dF (i_ltn c5)]; decide
              rw [if_neg (fun q => nb q.2)] at ih; exact ih
            · unfold bhB
              rw [dF c3, dT (nn c4), em, dT (i_nle c5)]; rfl
        · rw [if_neg (fun q => c2 q.1.2)] at ih; exact ih
  have L1 : okH n = true → ∀ t, t ≤ gN g → WP alM mX12_hires (k + 3) (fun v h' => v = vI (aHires g n) ∧ MI B h' (nHires g n)) 21 [some (vR 12 0), some (vI n), some (vI (abF (gS g) t)), some (vI (nI t)), none, none] [] h0 := by
    intro hok
    refine loop_up (gN g) ?_ (fun t ht ih => ?_)
    · refine wp_at tX12_hires [(62, [true, true, true, true, true, false])] 20 21 okM kX12_hires ⟨fun _ => ?_, fun c => absurd (by rw [a0.n1]; exact nI_le (Nat.le_refl _) (by omega)) c⟩
      rw [abF_bs hn]
      exact L2 hok 0 (Nat.zero_le _)
    · have es : abF (gS g) (t + 1) = abF (gS g) t ||| (if canF (gS g) t = true then bit t else nI 0) := rfl
      rw [es, ← nI_add t 1] at ih
      refine wp_at tX12_hires [(21, [true, true, true, true, false, false])] 40 21 okM kX12_hires ⟨fun c => absurd c (by rw [a0.n1]; exact nI_ge ht (by omega)), fun _ => ⟨_, c_mcan a0.1.1 (by omega), ?_⟩⟩
      rintro v h2 ⟨rfl, rfl⟩
      refine ⟨fun c => ?_, fun c => ?_⟩
      · rw [if_neg (by rw [b2_0.mp c]; decide)] at ih; exact ih
      · rw [if_pos (b2_n0.mp c)] at ih; exact ih
  refine ct_vc tX12_hires [(5, [true, true, false, false, false, false])] 10 okM kX12_hires rfl ?_
  show WP alM mX12_hires (k + 3) _ 5 [some (vR 12 0), some (vI n), none, none, none, none] [] (sX h 12 0 10 (nI 0))
  rw [hh0]
  refine wp_at tX12_hires [(21, [true, true, true, true, false, false])] 40 5 okM kX12_hires ⟨_, c_min, ?_⟩
  rw [show inB (nI 0) (nI 99) n = okH n from rfl]
  rintro v h' ⟨rfl, rfl⟩
  refine ⟨fun c => L1 (b2_n0.mp c) 0 (Nat.zero_le _), fun c => ?_⟩
  unfold aHires nHires
  simp only [if_neg (show ¬ okH n = true by rw [b2_0.mp (nn c)]; decide)]
  exact ⟨rfl, a0⟩
