/-! the crowd: sets as numbers; the reference's upFor, peopleOf, isSpared -/
theorem orG_N {a : Nat} {p : Nat → Bool} {f : Nat → Int32} : ∀ n, n ≤ 8 → (∀ j, j < n → f j = if p j = true then bit j else nI 0) → orG (nI a) f n = nI (a ||| bsN p n)
  | 0, _, _ => by rw [orG, bsN, Nat.or_zero]
  | n + 1, hn, hf => by
    rw [orG, bsN, orG_N n (by omega) (fun j hj => hf j (by omega)), hf n (by omega), ← Nat.or_assoc, ← nI_or]
    split
    · rw [bit_nI n (by omega), nI_or, nI_or]
    · rw [nI_or, nI_or]
theorem bh_tab : ∀ hm, hm < 256 → ∀ j, j < 8 → nI 1 <<< (nI j &&& 31) &&& (nI hm ^^^ -(nI 1)) = if hm.testBit j then nI 0 else bit j := by decide +kernel
theorem nh_tab : ∀ hm, hm < 256 → ∀ j, j < 8 → ((nI hm ^^^ -(nI 1)) >>> (nI j &&& 31)) &&& nI 1 = if hm.testBit j then nI 0 else nI 1 := by decide +kernel
/-- a round: who is up then -/
def rN (FL : Nat → Int32) (hm n u : Nat) : Nat := u ||| bsN (fun j => !decide (FL j = 0) && decide (FL j ≤ bcF (nI u)) && !hm.testBit j) n
theorem usF_N {FL : Nat → Int32} {hm n u : Nat} (hn : n ≤ 8) (hh : hm < 256) : usF FL (nI hm) (nI u) n = nI (rN FL hm n u) := by
  unfold usF rN
  refine orG_N n hn (fun j hj => ?_)
  rw [bh_tab hm hh j (by omega)]
  by_cases c1 : FL j = 0
  · rw [if_neg (fun w => w.1 c1), dT c1]; rfl
  · rw [dF c1]
    by_cases c2 : FL j ≤ bcF (nI u)
    · rw [if_pos ⟨c1, c2⟩, dT c2]
      cases hm.testBit j <;> rfl
    · rw [if_neg (fun w => c2 w.2), dF c2]; rfl
theorem rN_lt {FL : Nat → Int32} {hm n u : Nat} (hn : n ≤ 8) (hu : u < 256) : rN FL hm n u < 256 := Nat.or_lt_two_pow (n := 8) hu (Nat.lt_of_lt_of_le (bsN_lt n) (p2_le hn))
theorem rN_sub {FL : Nat → Int32} {hm n u : Nat} (j : Nat) (h : u.testBit j = true) : (rN FL hm n u).testBit j = true := by
  unfold rN
  rw [Nat.testBit_or, h]; rfl
def u0N (PK : Nat → Int32) (fav : Int32) (a hm n : Nat) : Nat := (a &&& (hm ^^^ 4294967295)) ||| bsN (fun j => decide (PK j ≤ fav) && !hm.testBit j) n
theorem u0F_N {PK : Nat → Int32} {fav : Int32} {a hm n : Nat} (hn : n ≤ 8) (hh : hm < 256) : u0F PK fav (nI a) (nI hm) n = nI (u0N PK fav a hm n) := by
  unfold u0F u0N
  rw [nI_not, nI_and]
  refine orG_N n hn (fun j hj => ?_)
  rw [← nI_not, bh_tab hm hh j (by omega)]
  by_cases c : PK j ≤ fav
  · rw [if_pos c, dT c]; cases hm.testBit j <;> rfl
  · rw [if_neg c, dF c]; rfl
theorem u0N_lt {PK : Nat → Int32} {fav : Int32} {a hm n : Nat} (hn : n ≤ 8) (ha : a < 256) : u0N PK fav a hm n < 256 := Nat.or_lt_two_pow (n := 8) (Nat.lt_of_le_of_lt Nat.and_le_left ha) (Nat.lt_of_lt_of_le (bsN_lt n) (p2_le hn))
/-- rounds -/
def itN (FL : Nat → Int32) (hm n : Nat) : Nat → Nat → Nat
  | 0, u => u
  | f + 1, u => itN FL hm n f (rN FL hm n u)
theorem itN_fix {FL : Nat → Int32} {hm n u : Nat} (h : rN FL hm n u = u) : ∀ f, itN FL hm n f u = u
  | 0 => rfl
  | f + 1 => by rw [itN, h]; exact itN_fix h f
theorem urF_N {FL : Nat → Int32} {hm n : Nat} (hn : n ≤ 8) (hh : hm < 256) : ∀ f u, u < 256 → urF FL (nI hm) n f (nI u) = nI (itN FL hm n f u)
  | 0, u, _ => rfl
  | f + 1, u, hu => by
    have hr := rN_lt (FL := FL) (hm := hm) hn hu
    rw [urF, usF_N hn hh, itN]
    by_cases c : rN FL hm n u = u
    · rw [if_pos (by rw [c]), c, itN_fix c]
    · rw [if_neg (fun w => c (nI_inj (by omega) (by omega) w)), urF_N hn hh f _ hr]
def upN (PK FL : Nat → Int32) (n : Nat) (fav : Int32) (a hm : Nat) : Nat := itN FL hm n 8 (u0N PK fav a hm n)
theorem upF_N {PK FL : Nat → Int32} {n : Nat} {fav : Int32} {a hm : Nat} (hn : n ≤ 8) (ha : a < 256) (hh : hm < 256) : upF PK FL n fav (nI a) (nI hm) = nI (upN PK FL n fav a hm) := by
  unfold upF upN
  rw [u0F_N hn hh, urF_N hn hh 8 _ (u0N_lt hn ha)]
theorem itN_lt {FL : Nat → Int32} {hm n : Nat} (hn : n ≤ 8) : ∀ f u, u < 256 → itN FL hm n f u < 256
  | 0, u, h => h
  | f + 1, u, h => itN_lt hn f _ (rN_lt hn h)
theorem upN_lt {PK FL : Nat → Int32} {n : Nat} {fav : Int32} {a hm : Nat} (hn : n ≤ 8) (ha : a < 256) : upN PK FL n fav a hm < 256 := itN_lt hn 8 _ (u0N_lt hn ha)
theorem csF_N {f : Nat → Int32} {m n : Nat} (hm : m < 256) (hn : n ≤ 8) : csF f (nI m) n = smF (fun j => if m.testBit j = true then f j else nI 0) n := by
  unfold csF
  refine smF_cong (fun j hj => ?_)
  rw [sh_tb m hm j (by omega)]
  split
  · exact Int32.one_mul _
  · exact Int32.zero_mul
theorem csF_n {f : Nat → Int32} {m n : Nat} (hm : m < 256) (hn : n ≤ 8) : csF f (nI m ^^^ -(nI 1)) n = smF (fun j => if m.testBit j = true then nI 0 else f j) n := by
  unfold csF
  refine smF_cong (fun j hj => ?_)
  rw [nh_tab m hm j (by omega)]
  split
  · exact Int32.zero_mul
  · exact Int32.one_mul _
theorem pc_lt {u v : Nat} (hs : ∀ j, u.testBit j = true → v.testBit j = true) : ∀ f, pcN f u ≤ pcN f v
  | 0 => Nat.le_refl _
  | f + 1 => by
    have := pc_lt hs f
    rw [pcN, pcN]
    by_cases c : u.testBit f = true
    · rw [if_pos c, if_pos (hs f c)]; omega
    · rw [if_neg c]; omega
theorem pc_eq {u v : Nat} (hs : ∀ j, u.testBit j = true → v.testBit j = true) : ∀ f, pcN f v ≤ pcN f u → ∀ j, j < f → u.testBit j = v.testBit j
  | 0, _, j, hj => by omega
  | f + 1, h, j, hj => by
    have h0 := pc_lt hs f
    rw [pcN, pcN] at h
    by_cases c : u.testBit f = true
    · have c2 := hs f c
      rw [if_pos c, if_pos c2] at h
      by_cases cj : j = f
      · subst cj; rw [c, c2]
      · exact pc_eq hs f (by omega) j (by omega)
    · rw [if_neg c] at h
      by_cases c2 : v.testBit f = true
      · rw [if_pos c2] at h; omega
      · rw [if_neg c2] at h
        by_cases cj : j = f
        · subst cj; rw [Bool.eq_false_iff.mpr c, Bool.eq_false_iff.mpr c2]
        · exact pc_eq hs f (by omega) j (by omega)
theorem eq8 {u v : Nat} (hu : u < 256) (hv : v < 256) (h : ∀ j, j < 8 → u.testBit j = v.testBit j) : u = v := by
  apply Nat.eq_of_testBit_eq
  intro j
  by_cases c : j < 8
  · exact h j c
  · rw [tb_hi hu (by omega), tb_hi hv (by omega)]
theorem pc_8 {f u : Nat} : pcN f u ≤ f := by
  induction f with
  | zero => exact Nat.le_refl _
  | succ f ih => rw [pcN]; split <;> omega
/-- the bit j taken out: as many, if it wasn't there -/
theorem bo_tab : ∀ u, u < 256 → ∀ j, j < 8 → u.testBit j = false → nI u &&& ((nI 1 <<< (nI j &&& 31)) ^^^ -(nI 1)) = nI u := by decide +kernel
theorem c_peopleOf {k m : Nat} {h : Hp} {g : GS} (w : Wm h g) (hm : m < 256) : Ct alM mX12_peopleOf (k + 1) [vR 12 0, vI (nI m)] h (Rd h (smF (fun j => if m.testBit j = true then gE g 0 j else nI 0) (gM g))) := by
  have hn := w.2.2.2.2.2.1
  have L : ∀ t, t ≤ gM g → WP alM mX12_peopleOf (k + 1) (Rd h (smF (fun j => if m.testBit j = true then gE g 0 j else nI 0) (gM g))) 4 [some (vR 12 0), some (vI (nI m)), some (vI (smF (fun j => if m.testBit j = true then gE g 0 j else nI 0) t)), some (vI (nI t))] [] h := by
    refine loop_up (gM g) ?_ (fun t ht ih => ?_)
    · exact wp_at tX12_peopleOf [] 20 4 okM kX12_peopleOf ⟨fun _ => ⟨rfl, rfl⟩, fun c => absurd (by rw [w.2.2.2.2.1]; exact nI_le (Nat.le_refl _) (by omega)) c⟩
    · rw [smF, ← nI_add t 1] at ih
      refine wp_at tX12_peopleOf [(4, [true, true, true, true])] 40 4 okM kX12_peopleOf ⟨fun c => absurd c (by rw [w.2.2.2.2.1]; exact nI_ge ht (by omega)), fun _ => ⟨_, c_mhas, ?_⟩⟩
      rintro v h' ⟨rfl, rfl⟩
      rw [hsB_tb hm (by omega)]
      refine ⟨fun c => ?_, fun c => ?_⟩
      · rw [if_neg (by rw [b2_0.mp c]; decide)] at ih; exact ih
      · rw [if_pos (b2_n0.mp c)] at ih
        refine ⟨by rw [nI_mul]; exact ix1 24 (by omega), ?_⟩
        rw [nI_mul, nI_clamp (by omega), show h'.1 42 0 (3 * t) = gE g 0 t from w.2.2.2.2.2.2.1 t ht 0 (by omega)]
        exact ih
  refine ct_vc tX12_peopleOf [(4, [true, true, true, true])] 20 okM kX12_peopleOf rfl ?_
  exact L 0 (Nat.zero_le _)
theorem c_allSeats {k : Nat} {h : Hp} {g : GS} (w : Wm h g) : Ct alM mX12_allSeats k [vR 12 0] h (Rd h (nI (2 ^ gM g - 1))) := by
  refine ct_vc tX12_allSeats [] 20 okM kX12_allSeats rfl ?_
  refine ⟨?_, rfl⟩
  show vI (nI 1 <<< (h.1 12 0 3 &&& 31) - nI 1) = _
  rw [w.2.2.2.2.1, all_nI w.2.2.2.2.2.1]
theorem c_mup {k a hm : Nat} {h : Hp} {g : GS} {fav : Int32} (w : Wm h g) (ha : a < 256) (hh : hm < 256) : Ct alM mX12_upFor (k + 1) [vR 12 0, vI fav, vI (nI a), vI (nI hm)] h (Rd h (upF (gE g 2) (gE g 4) (gM g) fav (nI a) (nI hm))) := by
  have hn := w.2.2.2.2.2.1
  have em := w.2.2.2.2.1
  have es : ∀ t, t < gM g → ∀ p, p < 3 → h.1 42 0 (3 * t + p) = gE g (2 * p) t := w.2.2.2.2.2.2.1
  have sk := w.2.2.2.2.2.2.2.1
  rw [upF_N hn ha hh]
  unfold upN
  -- a round, from the set u; t seats are done
  have RD : ∀ u, u < 256 → (WP alM mX12_upFor (k + 1) (Rd h (nI (itN (gE g 4) hm (gM g) 8 (u0N (gE g 2) fav a hm (gM g))))) 65 [some (vR 12 0), some (vI fav), some (vI (nI a)), some (vI (nI hm)), some (vI (nI (rN (gE g 4) hm (gM g) u))), some (vI (nI u)), none, none] [] h) → ∀ t, t ≤ gM g → WP alM mX12_upFor (k + 1) (Rd h (nI (itN (gE g 4) hm (gM g) 8 (u0N (gE g 2) fav a hm (gM g))))) 79 [some (vR 12 0), some (vI fav), some (vI (nI a)), some (vI (nI hm)), some (vI (nI (u ||| bsN (fun j => !decide (gE g 4 j = 0) && decide (gE g 4 j ≤ bcF (nI u)) && !hm.testBit j) t))), some (vI (nI u)), some (vI (nI t)), none] [] h := by
    intro u hu hend
    refine loop_up (gM g) ?_ (fun t ht ih => ?_)
    · exact wp_at tX12_upFor [(65, [true, true, true, true, true, true, false, false])] 20 79 okM kX12_upFor ⟨fun _ => hend, fun c => absurd (by rw [em]; exact nI_le (Nat.le_refl _) (by omega)) c⟩
    · rw [bsN, ← Nat.or_assoc, ← nI_add t 1] at ih
      obtain ⟨B, hB⟩ : ∃ B, u ||| bsN (fun j => !decide (gE g 4 j = 0) && decide (gE g 4 j ≤ bcF (nI u)) && !hm.testBit j) t = B := ⟨_, rfl⟩
      rw [hB] at ih ⊢
      obtain ⟨fl, hfl, efl⟩ := (sk t ht).2.2
      have e2 : h.1 42 0 (3 * t + 2) = gE g 4 t := es t ht 2 (by omega)
      have NO : ¬ (!decide (gE g 4 t = 0) && decide (gE g 4 t ≤ bcF (nI u)) && !hm.testBit t) = true → WP alM mX12_upFor (k + 1) (Rd h (nI (itN (gE g 4) hm (gM g) 8 (u0N (gE g 2) fav a hm (gM g))))) 141 [some (vR 12 0), some (vI fav), some (vI (nI a)), some (vI (nI hm)), some (vI (nI B)), some (vI (nI u)), some (vI (nI t)), some (vI (gE g 4 t))] [] h := by
        intro hno
        rw [if_neg hno, Nat.or_zero] at ih
        exact wp_at tX12_upFor [(79, [true, true, true, true, true, true, true, false])] 20 141 okM kX12_upFor ih
      -- one that is up already
      have IN : u.testBit t = true → WP alM mX12_upFor (k + 1) (Rd h (nI (itN (gE g 4) hm (gM g) 8 (u0N (gE g 2) fav a hm (gM g))))) 79 [some (vR 12 0), some (vI fav), some (vI (nI a)), some (vI (nI hm)), some (vI (nI B)), some (vI (nI u)), some (vI (nI t + nI 1)), none] [] h ∧ nI B ||| nI 1 <<< (nI t &&& 31) = nI B := by
        intro hut
        have hBt : B.testBit t = true := by rw [← hB, Nat.testBit_or, hut]; rfl
        have hB2 : B ||| 2 ^ t = B := by
          apply Nat.eq_of_testBit_eq
          intro i
          rw [Nat.testBit_or, Nat.testBit_two_pow]
          by_cases c : t = i
          · subst c; rw [hBt]; rfl
          · rw [dF c, Bool.or_false]
        refine ⟨?_, ?_⟩
        · by_cases c : (!decide (gE g 4 t = 0) && decide (gE g 4 t ≤ bcF (nI u)) && !hm.testBit t) = true
          · rw [if_pos c, hB2] at ih; exact ih
          · rw [if_neg c, Nat.or_zero] at ih; exact ih
        · rw [or_nI (by omega), hB2]
      refine wp_at tX12_upFor [(141, [true, true, true, true, true, true, true, true])] 60 79 okM kX12_upFor ⟨fun c => absurd c (by rw [em]; exact nI_ge ht (by omega)), fun _ => ⟨by rw [n3j]; exact ix1 24 (by omega), ?_⟩⟩
      rw [n3j, nI_clamp (by omega), e2]
      refine ⟨_, c_mhas, ?_⟩
      rw [hsB_tb hh (by omega)]
      rintro v h' ⟨rfl, rfl⟩
      refine ⟨fun c => NO (fun z => by rw [b2_n0.mp c] at z; simp at z), fun c => ?_⟩
      have c' : hm.testBit t = false := b2_0.mp (nn c)
      refine ⟨fun c2 => NO (fun z => ?_), fun c2 => ?_⟩
      · have : gE g 4 t = 0 := by
          have c2' : gE g 4 t ≤ nI 0 := c2
          rw [efl] at c2' ⊢
          have := (nI_leI (by omega) (by omega)).mp c2'
          have : fl = 0 := by omega
          rw [this]; rfl
        rw [dT this] at z
        cases z
      · have f0 : ¬ gE g 4 t = 0 := fun z => c2 (by rw [z]; exact Int32.le_refl _)
        refine ⟨_, c_bitCount okM, ?_⟩
        rintro v h' ⟨rfl, rfl⟩
        by_cases hut : u.testBit t = true
        · obtain ⟨I1, I2⟩ := IN hut
          refine ⟨fun _ => ?_, fun _ => ?_⟩
          · exact wp_at tX12_upFor [(79, [true, true, true, true, true, true, true, false])] 20 141 okM kX12_upFor I1
          · have I3 : WP alM mX12_upFor (k + 1) (Rd h' (nI (itN (gE g 4) hm (gM g) 8 (u0N (gE g 2) fav a hm (gM g))))) 141 [some (vR 12 0), some (vI fav), some (vI (nI a)), some (vI (nI hm)), some (vI (nI B)), some (vI (nI u)), some (vI (nI t)), some (vI (gE g 4 t))] [] h' := wp_at tX12_upFor [(79, [true, true, true, true, true, true, true, false])] 20 141 okM kX12_upFor I1
            rw [← I2] at I3
            exact I3
        · rw [bo_tab u hu t (by omega) (Bool.eq_false_iff.mpr hut)]
          refine ⟨fun c3 => NO (fun z => ?_), fun c3 => ?_⟩
          · rw [dF (i_len c3), Bool.and_false] at z; cases z
          · have hyes : (!decide (gE g 4 t = 0) && decide (gE g 4 t ≤ bcF (nI u)) && !hm.testBit t) = true := by rw [dF f0, dT (i_nlt c3), c']; rfl
            rw [if_pos hyes, ← or_nI (by omega)] at ih
            have := wp_at tX12_upFor [(79, [true, true, true, true, true, true, true, false])] 20 141 (lv := [some (vR 12 0), some (vI fav), some (vI (nI a)), some (vI (nI hm)), some (vI (nI B ||| nI 1 <<< (nI t &&& 31))), some (vI (nI u)), some (vI (nI t)), some (vI (gE g 4 t))]) okM kX12_upFor ih
            exact this
  have W72 : ∀ f u, u < 256 → 8 ≤ pcN 8 u + f → itN (gE g 4) hm (gM g) 8 (u0N (gE g 2) fav a hm (gM g)) = itN (gE g 4) hm (gM g) f u → WP alM mX12_upFor (k + 1) (Rd h (nI (itN (gE g 4) hm (gM g) 8 (u0N (gE g 2) fav a hm (gM g))))) 72 [some (vR 12 0), some (vI fav), some (vI (nI a)), some (vI (nI hm)), some (vI (nI u)), none, none, none] [] h := by
    intro f
    induction f with
    | zero =>
      intro u hu hp e
      have hr := rN_lt (FL := gE g 4) (hm := hm) hn hu
      have fix : rN (gE g 4) hm (gM g) u = u := (eq8 hu hr (pc_eq (fun j hj => rN_sub j hj) 8 (by have := pc_8 (f := 8) (u := rN (gE g 4) hm (gM g) u); omega))).symm
      have := RD u hu (by
        rw [fix]
        refine wp_at tX12_upFor [] 20 65 okM kX12_upFor ⟨fun _ => ⟨by rw [e]; rfl, rfl⟩, fun c => absurd rfl c⟩) 0 (Nat.zero_le _)
      rw [bsN, Nat.or_zero] at this
      exact wp_at tX12_upFor [(79, [true, true, true, true, true, true, true, false])] 20 72 okM kX12_upFor this
    | succ f ih =>
      intro u hu hp e
      have hr := rN_lt (FL := gE g 4) (hm := hm) hn hu
      have := RD u hu (by
        by_cases c : rN (gE g 4) hm (gM g) u = u
        · rw [c]
          refine wp_at tX12_upFor [] 20 65 okM kX12_upFor ⟨fun _ => ⟨by rw [e, itN_fix c], rfl⟩, fun c => absurd rfl c⟩
        · have pc1 : pcN 8 u + 1 ≤ pcN 8 (rN (gE g 4) hm (gM g) u) := by
            have h1 := pc_lt (u := u) (v := rN (gE g 4) hm (gM g) u) (fun j hj => rN_sub j hj) 8
            refine Classical.byContradiction fun z => c ?_
            exact (eq8 hu hr (pc_eq (fun j hj => rN_sub j hj) 8 (by omega))).symm
          have := ih _ hr (by omega) e
          refine wp_at tX12_upFor [(72, [true, true, true, true, true, false, false, false])] 20 65 okM kX12_upFor ⟨fun c2 => absurd (nI_inj (by omega) (by omega) c2) c, fun _ => this⟩) 0 (Nat.zero_le _)
      rw [bsN, Nat.or_zero] at this
      exact wp_at tX12_upFor [(79, [true, true, true, true, true, true, true, false])] 20 72 okM kX12_upFor this
  have u0 := u0N_lt (PK := gE g 2) (fav := fav) (hm := hm) hn ha
  have L1 : ∀ t, t ≤ gM g → WP alM mX12_upFor (k + 1) (Rd h (nI (itN (gE g 4) hm (gM g) 8 (u0N (gE g 2) fav a hm (gM g))))) 10 [some (vR 12 0), some (vI fav), some (vI (nI a)), some (vI (nI hm)), some (vI (nI ((a &&& (hm ^^^ 4294967295)) ||| bsN (fun j => decide (gE g 2 j ≤ fav) && !hm.testBit j) t))), some (vI (nI t)), none, none] [] h := by
    refine loop_up (gM g) ?_ (fun t ht ih => ?_)
    · have := W72 8 _ u0 (by omega) rfl
      refine wp_at tX12_upFor [(72, [true, true, true, true, true, false, false, false])] 20 10 okM kX12_upFor ⟨fun _ => ⟨fun c => ?_, fun _ => this⟩, fun c => absurd (by rw [em]; exact nI_le (Nat.le_refl _) (by omega)) c⟩
      exfalso
      have c' : nI (u0N (gE g 2) fav a hm (gM g)) = -(nI 1) := c
      rw [m1_nI] at c'
      have hng : nI (u0N (gE g 2) fav a hm (gM g)) < 0 := by rw [c']; decide
      exact nI_pos (by omega) hng
    · rw [bsN, ← Nat.or_assoc, ← nI_add t 1] at ih
      have e1 : h.1 42 0 (3 * t + 1) = gE g 2 t := es t ht 1 (by omega)
      obtain ⟨B, hB⟩ : ∃ B, (a &&& (hm ^^^ 4294967295)) ||| bsN (fun j => decide (gE g 2 j ≤ fav) && !hm.testBit j) t = B := ⟨_, rfl⟩
      rw [hB] at ih ⊢
      have NO : ¬ (decide (gE g 2 t ≤ fav) && !hm.testBit t) = true → WP alM mX12_upFor (k + 1) (Rd h (nI (itN (gE g 4) hm (gM g) 8 (u0N (gE g 2) fav a hm (gM g))))) 53 [some (vR 12 0), some (vI fav), some (vI (nI a)), some (vI (nI hm)), none, some (vI (nI t)), none, none] [vI (nI 0), vI (nI B)] h := by
        intro hno
        rw [if_neg hno] at ih
        rw [← nI_or] at ih
        exact wp_at tX12_upFor [(10, [true, true, true, true, true, true, false, false])] 20 53 okM kX12_upFor ih
      refine wp_at tX12_upFor [(53, [true, true, true, true, false, true, false, false])] 60 10 okM kX12_upFor ⟨fun c => absurd c (by rw [em]; exact nI_ge ht (by omega)), fun _ => ⟨_, c_mhas, ?_⟩⟩
      rw [hsB_tb hh (by omega)]
      rintro v h' ⟨rfl, rfl⟩
      refine ⟨fun c => NO (fun z => by rw [b2_n0.mp c] at z; simp at z), fun c => ⟨by rw [n3j]; exact ix1 24 (by omega), ?_⟩⟩
      have c' : hm.testBit t = false := b2_0.mp (nn c)
      rw [n3j, nI_clamp (by omega), e1]
      refine ⟨fun c2 => NO (fun z => by rw [dF (i_len c2)] at z; cases z), fun c2 => ?_⟩
      have hyes : (decide (gE g 2 t ≤ fav) && !hm.testBit t) = true := by rw [dT (i_nlt c2), c']; rfl
      rw [if_pos hyes, ← or_nI (by omega)] at ih
      exact wp_at tX12_upFor [(10, [true, true, true, true, true, true, false, false])] 20 53 okM kX12_upFor ih
  refine ct_vc tX12_upFor [(10, [true, true, true, true, true, true, false, false])] 20 okM kX12_upFor rfl ?_
  have := L1 0 (Nat.zero_le _)
  rw [bsN, Nat.or_zero, ← nI_and, ← nI_not] at this
  exact this
theorem c_misSpared {k a hm : Nat} {h : Hp} {g : GS} {fav : Int32} (w : Wm h g) (ha : a < 256) (hh : hm < 256) : Ct alM mX12_isSpared (k + 2) [vR 12 0, vI fav, vI (nI a), vI (nI hm)] h (Rd h (b2 (spG g fav (nI a) (nI hm)))) := by
  have hn := w.2.2.2.2.2.1
  refine ct_vc tX12_isSpared [] 60 okM kX12_isSpared rfl ?_
  refine ⟨_, c_mup w ha hh, ?_⟩
  rintro v h' ⟨rfl, rfl⟩
  rw [upF_N hn ha hh]
  refine ⟨_, c_peopleOf w (upN_lt hn ha), ?_⟩
  rintro v h' ⟨rfl, rfl⟩
  refine ⟨_, c_allSeats w, ?_⟩
  rintro v h' ⟨rfl, rfl⟩
  have e1 : nI (2 ^ gM g - 1) &&& (nI hm ^^^ -(nI 1)) = nI ((2 ^ gM g - 1) &&& (hm ^^^ 4294967295)) := by rw [nI_not, nI_and]
  have hlt : (2 ^ gM g - 1) &&& (hm ^^^ 4294967295) < 256 := Nat.lt_of_le_of_lt Nat.and_le_left (by have := p2_le hn; have := Nat.two_pow_pos (gM g); omega)
  refine ⟨_, ct_cv (c_peopleOf w hlt) (congrArg (fun x => [vR 12 0, vI x]) e1) rfl, ?_⟩
  rintro v h' ⟨rfl, rfl⟩
  have e2 : smF (fun j => if ((2 ^ gM g - 1) &&& (hm ^^^ 4294967295)).testBit j = true then gE g 0 j else nI 0) (gM g) = csF (gE g 0) (nI hm ^^^ -(nI 1)) (gM g) := by
    rw [csF_n hh hn]
    refine smF_cong (fun j hj => ?_)
    rw [Nat.testBit_and, Nat.testBit_xor, Nat.testBit_two_pow_sub_one, tb_M j (by omega), dT hj]
    cases hm.testBit j <;> rfl
  have e3 : smF (fun j => if (upN (gE g 2) (gE g 4) (gM g) fav a hm).testBit j = true then gE g 0 j else nI 0) (gM g) = csF (gE g 0) (upF (gE g 2) (gE g 4) (gM g) fav (nI a) (nI hm)) (gM g) := by
    rw [upF_N hn ha hh, csF_N (upN_lt hn ha) hn]
  rw [e2, e3]
  unfold spG spB
  exact ⟨fun c => ⟨Or.inl rfl, bF (dF (i_len c)), rfl⟩, fun c => ⟨Or.inr rfl, bT (dT (i_nlt c)), rfl⟩⟩
