/-! the reference: the crowd's questions -/
theorem Inv.fav {D : Nat} {g : GS} (y : Inv D g) {j : Nat} (hj : j < gN g) : ∃ v, v ≤ 99 ∧ gS g j = nI v := y.pi.2.2 j hj
theorem m_Thumbs {B D k : Nat} {h : Hp} {g : GS} {x : Int32} (a : MI B h g) (z : Sz g) (iv : Inv D g) : Ct alM mX12_thumbs (k + 4) [vR 12 0, vI x] h (fun v h' => v = vI (aThumbs g x) ∧ MI B h' (nThumbs g x)) := by
  have hn := z.1
  have a0 := a.fld (j := 10) (x := nI 0) (by decide)
  refine ct_vc tX12_thumbs [(61, [true, false, true])] 60 okM kX12_thumbs rfl ?_
  refine ⟨_, c_isMan a0.n1 hn, ?_⟩
  rintro v h' ⟨rfl, rfl⟩
  unfold aThumbs nThumbs
  refine ⟨fun c => ?_, fun c => ?_⟩
  · have c' := b2_n0.mp c
    simp only [if_pos c']
    obtain ⟨j, hj, rfl⟩ := hasN_get c' (by omega)
    obtain ⟨fv, hfv, efv⟩ := iv.fav hj
    rw [nI_clamp (show j < 2 ^ 31 by omega)]
    refine ⟨ix1 47 (by omega), ?_⟩
    rw [nI_clamp (show j < 2 ^ 31 by omega), a0.1.1, mS_lo (by omega)]
    refine ⟨_, c_mup (a := 0) (hm := 0) (a0.ww z iv) (by omega) (by omega), ?_⟩
    rintro v h1 ⟨rfl, rfl⟩
    have a1 := a0.clr
    have w1 : Wm (sX (sX h 12 0 10 (nI 0)) 12 0 9 (nI 0)) g := a1.w (g := uL g []) ⟨z.1, z.2.1, z.2.2.1, Nat.zero_le _, z.2.2.2.2⟩ iv.1
    have eu := upF_N (PK := gE g 2) (FL := gE g 4) (fav := gS g j) (a := 0) (hm := 0) z.2.1 (by omega) (by omega)
    refine ⟨_, ct_cv (c_peopleOf w1 (upN_lt (PK := gE g 2) (FL := gE g 4) (fav := gS g j) (a := 0) (hm := 0) z.2.1 (by omega))) (congrArg (fun x => [vR 12 0, vI x]) eu) rfl, ?_⟩
    rintro v h2 ⟨rfl, rfl⟩
    refine ⟨_, c_tellR a1 (by show (0 : Nat) < 16; decide), ?_⟩
    rintro v h2 ⟨a2, -⟩
    have w2 : Wm h2 g := a2.w (g := uL g _) ⟨z.1, z.2.1, z.2.2.1, by show (1 : Nat) ≤ 8; decide, z.2.2.2.2⟩ iv.1
    refine ⟨_, c_misNow w2 a2.1.1 (by omega) hfv efv, ?_⟩
    rintro v h3 ⟨rfl, rfl⟩
    have es : smF (fun q => if (upN (gE g 2) (gE g 4) (gM g) (gS g j) 0 0).testBit q = true then gE g 0 q else nI 0) (gM g) = csF (gE g 0) (upF (gE g 2) (gE g 4) (gM g) (gS g j) (nI 0) (nI 0)) (gM g) := by rw [eu, csF_N (upN_lt z.2.1 (by omega)) z.2.1]
    have F : ∀ y, (if spL g (gS g j) = true then lN 1 else lN 0) = y → WP alM mX12_thumbs (k + 4) (fun v h' => v = vI (upF (gE g 2) (gE g 4) (gM g) (gS g j) (nI 0) (nI 0)) ∧ MI B h' (uL g [(csF (gE g 0) (upF (gE g 2) (gE g 4) (gM g) (gS g j) (nI 0) (nI 0)) (gM g)).toInt64, if spL g (gS g j) = true then lN 1 else lN 0])) 61 [some (vR 12 0), none, some (vI (upF (gE g 2) (gE g 4) (gM g) (gS g j) (nI 0) (nI 0)))] [vL y, vR 12 0] h3 := by
      intro y hy
      refine wp_at tX12_thumbs [] 30 61 okM kX12_thumbs ⟨_, c_tellR a2 (by show (1 : Nat) < 16; decide), ?_⟩
      rintro v h4 ⟨a4, -⟩
      rw [es, ← hy] at a4
      exact ⟨rfl, a4⟩
    refine ⟨fun c5 => F _ ?_, fun c5 => F _ ?_⟩
    · rw [b2_0.mp c5]; rfl
    · rw [b2_n0.mp c5]; rfl
  · have c' : ¬ hasN x (gN g) = true := by rw [b2_0.mp (nn c)]; decide
    simp only [if_neg c']
    exact ⟨rfl, a0⟩
theorem m_Mercy {B D k : Nat} {h : Hp} {g : GS} (a : MI B h g) (z : Sz g) (iv : Inv D g) : Ct alM mX12_mercy (k + 3) [vR 12 0] h (fun v h' => v = vI (aMercy g) ∧ MI B h' g) := by
  have hn := z.1
  have a0 := a.fld (j := 10) (x := nI 0) (by decide)
  have eM : aMercy g = if lsG g ≤ 99 then nI (lsG g) else -(nI 2) := by
    unfold aMercy spL
    have hb := lsF_le (p := fun v => spG g (nI v) (nI 0) (nI 0)) 100 0
    have e : lsG g = lsF (fun v => spG g (nI v) (nI 0) (nI 0)) 100 0 := rfl
    rw [← e] at hb
    by_cases c : lsG g ≤ 99
    · rw [if_pos c, dT (nI_le c (by omega)), if_pos rfl]
    · rw [if_neg c, dF (nI_ge (by omega) (by omega)), if_neg (by decide)]
  have L : ∀ f i, i + f = 100 → lsG g = lsF (fun v => spG g (nI v) (nI 0) (nI 0)) f i → WP alM mX12_mercy (k + 3) (fun v h' => v = vI (aMercy g) ∧ MI B h' g) 7 [some (vR 12 0), some (vI (nI i))] [] (sX h 12 0 10 (nI 0)) := by
    intro f
    induction f with
    | zero =>
      intro i hi e
      refine wp_at tX12_mercy [] 20 7 okM kX12_mercy ⟨fun _ => ⟨?_, a0⟩, fun c => absurd (nI_lt (show 99 < i by omega) (by omega)) c⟩
      rw [lsF] at e
      rw [eM, if_neg (by omega)]
    | succ f ih =>
      intro i hi e
      rw [lsF] at e
      refine wp_at tX12_mercy [(7, [true, true])] 30 7 okM kX12_mercy ⟨fun c => absurd c (nI_nlt (by omega) (by omega)), fun _ => ⟨_, c_misSpared (a := 0) (hm := 0) (a0.ww z iv) (by omega) (by omega), ?_⟩⟩
      rintro v h1 ⟨rfl, rfl⟩
      refine ⟨fun c => ?_, fun c => ?_⟩
      · rw [if_neg (by rw [b2_0.mp c]; decide)] at e
        have := ih (i + 1) (by omega) e
        rw [← nI_add i 1] at this
        exact this
      · rw [if_pos (b2_n0.mp c)] at e
        refine ⟨?_, a0⟩
        rw [eM, if_pos (by omega), e]
  refine ct_vc tX12_mercy [(7, [true, true])] 20 okM kX12_mercy rfl ?_
  exact L 100 0 rfl rfl
theorem m_Claque {B D k : Nat} {h : Hp} {g : GS} {x : Int32} (a : MI B h g) (z : Sz g) (iv : Inv D g) : Ct alM mX12_claque (k + 4) [vR 12 0, vI x] h (fun v h' => v = vI (aClaque g x) ∧ MI B h' (nClaque g x)) := by
  have hn := z.1
  have hp := p2_le z.2.1
  have hp0 := Nat.two_pow_pos (gM g)
  have a0 := a.fld (j := 10) (x := nI 0) (by decide)
  obtain ⟨h0, hh0⟩ : ∃ h0, sX h 12 0 10 (nI 0) = h0 := ⟨_, rfl⟩
  rw [hh0] at a0
  have w0 := a0.ww z iv
  refine ct_vc tX12_claque [(5, [true, true, false, false])] 10 okM kX12_claque rfl ?_
  show WP alM mX12_claque (k + 4) _ 5 [some (vR 12 0), some (vI x), none, none] [] (sX h 12 0 10 (nI 0))
  rw [hh0]
  refine wp_at tX12_claque [(22, [true, true, true, true])] 60 5 okM kX12_claque ⟨_, c_isMan a0.n1 hn, ?_⟩
  rintro v h' ⟨rfl, rfl⟩
  unfold aClaque nClaque
  refine ⟨fun c => ?_, fun c => ?_⟩
  · have c' := b2_n0.mp c
    simp only [if_pos c']
    obtain ⟨j, hj, rfl⟩ := hasN_get c' (by omega)
    rw [nI_clamp (show j < 2 ^ 31 by omega)]
    refine ⟨_, c_allSeats w0, ?_⟩
    rintro v h1 ⟨rfl, rfl⟩
    have L : ∀ t, t ≤ 2 ^ gM g - 1 → WP alM mX12_claque (k + 4) (fun v h' => v = vI (bcF (clF g (gS g j))) ∧ MI B h' (uL g [(clF g (gS g j)).toInt64])) 22 [some (vR 12 0), some (vI (nI j)), some (vI (fwF (2 ^ gM g - 1) (fun s => spG g (gS g j) (nI s) (nI 0)) t)), some (vI (nI t))] [] h1 := by
      refine loop_up (2 ^ gM g - 1) ?_ (fun t ht ih => ?_)
      · refine wp_at tX12_claque [] 40 22 okM kX12_claque ⟨_, c_allSeats w0, ?_⟩
        rintro v h2 ⟨rfl, rfl⟩
        refine ⟨fun _ => ⟨_, c_tellR a0.clr (by show (0 : Nat) < 16; decide), ?_⟩, fun c => absurd (nI_le (Nat.le_refl _) (by omega)) c⟩
        rintro v h3 ⟨a3, -⟩
        refine ⟨_, c_bitCount okM, ?_⟩
        rintro v h4 ⟨rfl, rfl⟩
        exact ⟨rfl, a3⟩
      · have es : fwF (2 ^ gM g - 1) (fun s => spG g (gS g j) (nI s) (nI 0)) (t + 1) = if bcF (nI t) < bcF (fwF (2 ^ gM g - 1) (fun s => spG g (gS g j) (nI s) (nI 0)) t) ∧ spG g (gS g j) (nI t) (nI 0) = true then nI t else fwF (2 ^ gM g - 1) (fun s => spG g (gS g j) (nI s) (nI 0)) t := rfl
        rw [es, ← nI_add t 1] at ih
        refine wp_at tX12_claque [(22, [true, true, true, true])] 60 22 okM kX12_claque ⟨_, c_allSeats w0, ?_⟩
        rintro v h2 ⟨rfl, rfl⟩
        refine ⟨fun c => absurd c (nI_ge ht (by omega)), fun _ => ⟨_, c_bitCount okM, ?_⟩⟩
        rintro v h2 ⟨rfl, rfl⟩
        refine ⟨_, c_bitCount okM, ?_⟩
        rintro v h2 ⟨rfl, rfl⟩
        refine ⟨fun c2 => ?_, fun c2 => ⟨ix1 47 (by omega), ?_⟩⟩
        · rw [if_neg (fun q => (i_ltn c2) q.1)] at ih; exact ih
        · rw [nI_clamp (show j < 2 ^ 31 by omega), a0.1.1, mS_lo (by omega)]
          refine ⟨_, c_misSpared (a := t) (hm := 0) w0 (by omega) (by omega), ?_⟩
          rintro v h2 ⟨rfl, rfl⟩
          refine ⟨fun c3 => ?_, fun c3 => ?_⟩
          · rw [if_neg (fun q => by rw [q.2] at c3; exact absurd c3 (by decide))] at ih; exact ih
          · rw [if_pos ⟨i_nle c2, b2_n0.mp c3⟩] at ih; exact ih
    exact L 0 (Nat.zero_le _)
  · have c' : ¬ hasN x (gN g) = true := by rw [b2_0.mp (nn c)]; decide
    simp only [if_neg c']
    exact ⟨rfl, a0⟩
theorem m_Tips {B D k : Nat} {h : Hp} {g : GS} {x : Int32} (a : MI B h g) (z : Sz g) (iv : Inv D g) : Ct alM mX12_tips (k + 4) [vR 12 0, vI x] h (fun v h' => v = vI (aTips g x) ∧ MI B h' (nTips g x)) := by
  have hn := z.1
  have hm := z.2.1
  have a0 := a.fld (j := 10) (x := nI 0) (by decide)
  obtain ⟨h0, hh0⟩ : ∃ h0, sX h 12 0 10 (nI 0) = h0 := ⟨_, rfl⟩
  rw [hh0] at a0
  have w0 := a0.ww z iv
  refine ct_vc tX12_tips [(5, [true, true, false, false])] 10 okM kX12_tips rfl ?_
  show WP alM mX12_tips (k + 4) _ 5 [some (vR 12 0), some (vI x), none, none] [] (sX h 12 0 10 (nI 0))
  rw [hh0]
  refine wp_at tX12_tips [(19, [true, true, true, true])] 60 5 okM kX12_tips ⟨_, c_isMan a0.n1 hn, ?_⟩
  rintro v h' ⟨rfl, rfl⟩
  unfold aTips nTips
  refine ⟨fun c => ?_, fun c => ?_⟩
  · have c' := b2_n0.mp c
    simp only [if_pos c']
    obtain ⟨j, hj, rfl⟩ := hasN_get c' (by omega)
    obtain ⟨fv, hfv, efv⟩ := iv.fav hj
    rw [nI_clamp (show j < 2 ^ 31 by omega)]
    have L : ∀ t, t ≤ gM g → WP alM mX12_tips (k + 4) (fun v h' => v = vI (tiF g (gS g j)) ∧ MI B h' (uL g [(bcF (tiF g (gS g j))).toInt64])) 19 [some (vR 12 0), some (vI (nI j)), some (vI (tpF (fun q => spG g (gS g j) (nI 0) (bit q)) (spL g (gS g j)) t)), some (vI (nI t))] [] h' := by
      refine loop_up (gM g) ?_ (fun t ht ih => ?_)
      · refine wp_at tX12_tips [] 40 19 okM kX12_tips ⟨fun _ => ⟨_, c_bitCount okM, ?_⟩, fun c => absurd (by rw [a0.2.2.1.1]; exact nI_le (Nat.le_refl _) (by omega)) c⟩
        rintro v h2 ⟨rfl, rfl⟩
        refine ⟨_, c_tellR a0.clr (by show (0 : Nat) < 16; decide), ?_⟩
        rintro v h3 ⟨a3, -⟩
        exact ⟨rfl, a3⟩
      · rw [tpF_s, ← nI_add t 1] at ih
        refine wp_at tX12_tips [(19, [true, true, true, true])] 60 19 okM kX12_tips ⟨fun c => absurd c (by rw [a0.2.2.1.1]; exact nI_ge ht (by omega)), fun _ => ⟨ix1 47 (by omega), ?_⟩⟩
        rw [nI_clamp (show j < 2 ^ 31 by omega), a0.1.1, mS_lo (by omega)]
        have eb : nI 1 <<< (nI t &&& 31) = nI (2 ^ t) := bit_nI t (by omega)
        have h256 : 2 ^ t < 256 := Nat.lt_of_lt_of_le (Nat.pow_lt_pow_right (by decide) (show t < 8 by omega)) (Nat.le_refl _)
        refine ⟨_, ct_cv (c_misSpared (a := 0) (hm := 2 ^ t) w0 (by omega) h256) (congrArg (fun y => [vR 12 0, vI (gS g j), vI (nI 0), vI y]) eb) rfl, ?_⟩
        rintro v h2 ⟨rfl, rfl⟩
        refine ⟨_, c_misNow w0 a0.1.1 (by omega) hfv efv, ?_⟩
        rintro v h2 ⟨rfl, rfl⟩
        have eb2 : bit t = nI (2 ^ t) := eb
        rw [eb2] at ih
        refine ⟨fun c2 => ?_, fun c2 => ?_⟩
        · rw [if_pos (b2_inj c2)] at ih; exact ih
        · rw [if_neg (fun q => c2 (by rw [q])), ← eb] at ih; exact ih
    exact L 0 (Nat.zero_le _)
  · have c' : ¬ hasN x (gN g) = true := by rw [b2_0.mp (nn c)]; decide
    simp only [if_neg c']
    exact ⟨rfl, a0⟩
