/-! the class's calls: the crowd, pairs -/
/-- a set of places as bits -/
def bsN (p : Nat → Bool) : Nat → Nat
  | 0 => 0
  | n + 1 => bsN p n ||| (if p n = true then 2 ^ n else 0)
theorem bsN_lt {p : Nat → Bool} : ∀ n, bsN p n < 2 ^ n
  | 0 => Nat.zero_lt_one
  | n + 1 => by
    rw [bsN]
    refine Nat.or_lt_two_pow (Nat.lt_trans (bsN_lt n) (Nat.pow_lt_pow_right (by decide) (by omega))) ?_
    split
    · exact Nat.pow_lt_pow_right (by decide) (by omega)
    · exact Nat.two_pow_pos _
theorem bsN_tb {p : Nat → Bool} {j : Nat} : ∀ n, (bsN p n).testBit j = (decide (j < n) && p j)
  | 0 => by simp [bsN]
  | n + 1 => by
    rw [bsN, Nat.testBit_or, bsN_tb n]
    by_cases c : j = n
    · subst c
      cases h : p j <;> simp [Nat.testBit_two_pow_self]
    · have : (if p n = true then 2 ^ n else 0).testBit j = false := by
        split
        · rw [Nat.testBit_two_pow]; simp; omega
        · simp
      rw [this, Bool.or_false]
      congr 1
      simp; omega
theorem orF_bs {p : Nat → Bool} {g : Nat → Int32} : ∀ n, n ≤ 8 → (∀ j, j < n → g j = if p j = true then bit j else nI 0) → orF g n = nI (bsN p n)
  | 0, _, _ => rfl
  | n + 1, hn, hg => by
    rw [orF, bsN, orF_bs n (by omega) (fun j hj => hg j (by omega)), hg n (by omega), ← nI_or]
    split
    · rw [bit_nI n (by omega)]
    · rfl
theorem abF_bs {s : Sta} {n : Nat} (hn : n ≤ 8) : abF s n = nI (bsN (canF s) n) := orF_bs n hn (fun _ _ => rfl)
def aThumbs (g : GS) (x : Int32) : Int32 := if hasN x (gN g) = true then upF (gE g 2) (gE g 4) (gM g) (gS g x.toNatClampNeg) (nI 0) (nI 0) else -(nI 1)
/-- with so much FAVOUR one is spared -/
def spL (g : GS) (fav : Int32) : Bool := decide (nI (lsG g) ≤ fav)
def nThumbs (g : GS) (x : Int32) : GS := if hasN x (gN g) = true then uL g [(csF (gE g 0) (upF (gE g 2) (gE g 4) (gM g) (gS g x.toNatClampNeg) (nI 0) (nI 0)) (gM g)).toInt64, if spL g (gS g x.toNatClampNeg) = true then lN 1 else lN 0] else g
theorem CI.e {h : Hp} {g : GS} (a : CI h g) (p : Nat) : ro h 1 p = gE g p := by rw [a.2.2.1.2.2.1]
theorem c_Thumbs {k : Nat} {h : Hp} {g : GS} {x : Int32} (a : CI h g) (z : Sz g) : Ct alC mX11_thumbs (k + 2) [vR 11 0, vI x] h (fun v h' => v = vI (aThumbs g x) ∧ CI h' (nThumbs g x)) := by
  have hn := z.1
  refine ct_vc tX11_thumbs [] 60 okC kX11_thumbs rfl ?_
  refine ⟨_, c_has a.2.1.2.1, ?_⟩
  rintro v h' ⟨rfl, rfl⟩
  unfold aThumbs nThumbs
  refine ⟨fun c => ?_, fun c => ?_⟩
  · have c' := b2_n0.mp c
    simp only [if_pos c']
    obtain ⟨j, hj, rfl⟩ := hasN_get c' (by omega)
    rw [nI_clamp (by omega)]
    refine ⟨_, c_favour (by omega), ?_⟩
    rintro v h' ⟨rfl, rfl⟩
    refine ⟨_, c_up a.2.2.1.2.1 z.2.1, ?_⟩
    rintro v h' ⟨rfl, rfl⟩
    refine ⟨_, c_clrG a, ?_⟩
    rintro v h1 ⟨a1, e1⟩
    refine ⟨_, c_lsum a1.2.2.1.2.1 z.2.1 (by omega), ?_⟩
    rintro v h2 ⟨rfl, rfl⟩
    refine ⟨_, c_addG a1 (by show (0 : Nat) < 8; omega), ?_⟩
    rintro v h3 ⟨a3, e3⟩
    refine ⟨_, c_spares, ?_⟩
    rintro v h4 ⟨rfl, rfl⟩
    have e8 : h4.1 1 0 1 = nI (lsG g) := a3.2.2.1.2.2.2
    have e9 : h2.1 38 (5 * 1 + 0) = gE g 0 := a1.e 0
    rw [e8, a.e 2, a.e 4, a.1.1]
    refine ⟨fun c => ⟨_, c_addG a3 (by show (1 : Nat) < 8; omega), ?_⟩, fun c => ⟨_, c_addG a3 (by show (1 : Nat) < 8; omega), ?_⟩⟩
    · rintro v h5 ⟨a5, -⟩
      rw [e9, a.e 2, a.e 4, a.1.1] at a5
      rw [show spL g (gS g j) = false from b2_0.mp c]
      exact ⟨rfl, a5⟩
    · rintro v h5 ⟨a5, -⟩
      rw [e9, a.e 2, a.e 4, a.1.1] at a5
      rw [show spL g (gS g j) = true from b2_n0.mp c]
      exact ⟨rfl, a5⟩
  · have c' : ¬ hasN x (gN g) = true := by rw [b2_0.mp (nn c)]; decide
    simp only [if_neg c']
    exact ⟨rfl, a⟩
def aMercy (g : GS) : Int32 := if spL g (nI 99) = true then nI (lsG g) else -(nI 2)
theorem c_Mercy {k : Nat} {h : Hp} {g : GS} (a : CI h g) : Ct alC mX11_mercy (k + 1) [vR 11 0] h (Rd h (aMercy g)) := by
  refine ct_vc tX11_mercy [] 30 okC kX11_mercy rfl ?_
  refine ⟨_, c_spares, ?_⟩
  rintro v h' ⟨rfl, rfl⟩
  have e8 : h'.1 1 0 1 = nI (lsG g) := a.2.2.1.2.2.2
  unfold aMercy spL
  rw [e8]
  refine ⟨fun c => ⟨?_, rfl⟩, fun c => ⟨?_, rfl⟩⟩
  · rw [if_neg (by rw [b2_0.mp c]; decide)]
  · rw [if_pos (b2_n0.mp c)]
    exact congrArg vI e8
def clF (g : GS) (fav : Int32) : Int32 := fwF (2 ^ gM g - 1) (fun s => spG g fav (nI s) (nI 0)) (2 ^ gM g - 1)
def aClaque (g : GS) (x : Int32) : Int32 := if hasN x (gN g) = true then bcF (clF g (gS g x.toNatClampNeg)) else -(nI 1)
def nClaque (g : GS) (x : Int32) : GS := if hasN x (gN g) = true then uL g [(clF g (gS g x.toNatClampNeg)).toInt64] else g
theorem c_Claque {k : Nat} {h : Hp} {g : GS} {x : Int32} (a : CI h g) (z : Sz g) : Ct alC mX11_claque (k + 4) [vR 11 0, vI x] h (fun v h' => v = vI (aClaque g x) ∧ CI h' (nClaque g x)) := by
  have hn := z.1
  refine ct_vc tX11_claque [] 60 okC kX11_claque rfl ?_
  refine ⟨_, c_has a.2.1.2.1, ?_⟩
  rintro v h' ⟨rfl, rfl⟩
  unfold aClaque nClaque
  refine ⟨fun c => ?_, fun c => ?_⟩
  · have c' := b2_n0.mp c
    simp only [if_pos c']
    obtain ⟨j, hj, rfl⟩ := hasN_get c' (by omega)
    rw [nI_clamp (by omega)]
    refine ⟨_, c_favour (by omega), ?_⟩
    rintro v h' ⟨rfl, rfl⟩
    rw [a.1.1]
    refine ⟨_, c_fewestToWin a.2.2.1.2.1 z.2.1, ?_⟩
    rw [a.e 0, a.e 2, a.e 4]
    rintro v h' ⟨rfl, rfl⟩
    refine ⟨_, c_clrG a, ?_⟩
    rintro v h1 ⟨a1, -⟩
    refine ⟨_, c_addG a1 (by show (0 : Nat) < 8; omega), ?_⟩
    rintro v h3 ⟨a3, -⟩
    refine ⟨_, c_bitCount okC, ?_⟩
    rintro v h4 ⟨rfl, rfl⟩
    exact ⟨rfl, a3⟩
  · have c' : ¬ hasN x (gN g) = true := by rw [b2_0.mp (nn c)]; decide
    simp only [if_neg c']
    exact ⟨rfl, a⟩
def tiF (g : GS) (fav : Int32) : Int32 := tpF (fun j => spG g fav (nI 0) (bit j)) (spL g fav) (gM g)
def aTips (g : GS) (x : Int32) : Int32 := if hasN x (gN g) = true then tiF g (gS g x.toNatClampNeg) else -(nI 1)
def nTips (g : GS) (x : Int32) : GS := if hasN x (gN g) = true then uL g [(bcF (tiF g (gS g x.toNatClampNeg))).toInt64] else g
theorem c_Tips {k : Nat} {h : Hp} {g : GS} {x : Int32} (a : CI h g) (z : Sz g) : Ct alC mX11_tips (k + 4) [vR 11 0, vI x] h (fun v h' => v = vI (aTips g x) ∧ CI h' (nTips g x)) := by
  have hn := z.1
  refine ct_vc tX11_tips [] 60 okC kX11_tips rfl ?_
  refine ⟨_, c_has a.2.1.2.1, ?_⟩
  rintro v h' ⟨rfl, rfl⟩
  unfold aTips nTips
  refine ⟨fun c => ?_, fun c => ?_⟩
  · have c' := b2_n0.mp c
    simp only [if_pos c']
    obtain ⟨j, hj, rfl⟩ := hasN_get c' (by omega)
    rw [nI_clamp (by omega)]
    refine ⟨_, c_favour (by omega), ?_⟩
    rintro v h' ⟨rfl, rfl⟩
    rw [a.1.1]
    refine ⟨_, c_tipping a.2.2.1.2.1 z.2.1, ?_⟩
    rw [a.e 0, a.e 2, a.e 4, show h'.1 1 0 1 = nI (lsG g) from a.2.2.1.2.2.2]
    rintro v h' ⟨rfl, rfl⟩
    refine ⟨_, c_clrG a, ?_⟩
    rintro v h1 ⟨a1, -⟩
    refine ⟨_, c_bitCount okC, ?_⟩
    rintro v h4 ⟨rfl, rfl⟩
    refine ⟨_, c_addG a1 (by show (0 : Nat) < 8; omega), ?_⟩
    rintro v h3 ⟨a3, -⟩
    exact ⟨rfl, a3⟩
  · have c' : ¬ hasN x (gN g) = true := by rw [b2_0.mp (nn c)]; decide
    simp only [if_neg c']
    exact ⟨rfl, a⟩
/-- a FIGHT on trial -/
theorem c_foresee {k : Nat} {h : Hp} {g : GS} {x y : Int32} (a : CI h g) (z : Sz g) : Ct alC mX11_foresee (k + 5) [vR 11 0, vI x, vI y] h (fun v h' => v = vI (aFight g x y) ∧ Fr [(33, 2), (27, h.2.2 0)] h h' ∧ CI h' g ∧ h'.1 33 2 = if hnF (gN g) (gS g) x y = 0 then mtG g (gS g) x.toNatClampNeg y.toNatClampNeg else gS g) := by
  refine ct_vc tX11_foresee [] 60 okC kX11_foresee rfl ?_
  refine ⟨_, c_take, ?_⟩
  rintro v h' rfl
  have b := a.tri (s := h.1 33 0)
  refine ⟨_, c_meetW (b.wd z), ?_⟩
  rw [sV_same, a.1.1]
  rintro v h1 ⟨rfl, f1, g1⟩
  have hb : (sV h 33 2 (gS g)).2.2 0 < 2 := b.2.2.2.2.2.1.1
  have f2 : Fr [(33, 2), (27, h.2.2 0)] h h1 := (Fr.sV Fr.rf (by simp)).tr f1 (fun _ q => q)
  refine ⟨rfl, f2, a.scr f2 ?_, g1⟩
  intro q hq
  have hb2 : h.2.2 0 = 0 ∨ h.2.2 0 = 1 := by have : h.2.2 0 < 2 := hb; omega
  rcases hb2 with e | e <;> rw [e] at hq <;> simp at hq <;> rcases hq with rfl | rfl <;> simp [scrL]
def gnF (g : GS) (s' : Sta) (a d : Nat) : Int32 := fvF s' (bit a ||| bit d) 8 - fvF (gS g) (bit a ||| bit d) 8
theorem c_foreseenGain {k p q : Nat} {h : Hp} {g : GS} {s' : Sta} (a : CI h g) (e : h.1 33 2 = s') : Ct alC mX11_foreseenGain (k + 2) [vR 11 0, vI (nI p), vI (nI q)] h (Rd h (gnF g s' p q)) := by
  refine ct_vc tX11_foreseenGain [] 60 okC kX11_foreseenGain rfl ?_
  refine ⟨_, c_favourOf, ?_⟩
  rintro v h' ⟨rfl, rfl⟩
  refine ⟨_, c_favourOf, ?_⟩
  rintro v h' ⟨rfl, rfl⟩
  refine ⟨?_, rfl⟩
  unfold gnF
  rw [e, a.1.1]
  rfl
theorem aFight_sg {g : GS} {x y : Int32} (hn : gN g ≤ 8) : aFight g x y < 0 ↔ ¬ hnF (gN g) (gS g) x y = 0 := meet_sg hn
def wdS (s' : Sta) (a d w : Nat) : Int32 := if s' (32 + (a + d - w)) = nI 1 then nI 1 else nI 0
def aWould (g : GS) (x y : Int32) : Int32 := if hnF (gN g) (gS g) x y = 0 then nI 2 * nI (wnG g (gS g) x.toNatClampNeg y.toNatClampNeg) + wdS (mtG g (gS g) x.toNatClampNeg y.toNatClampNeg) x.toNatClampNeg y.toNatClampNeg (wnG g (gS g) x.toNatClampNeg y.toNatClampNeg) else hnF (gN g) (gS g) x y
def nWould (g : GS) (x y : Int32) : GS := if hnF (gN g) (gS g) x y = 0 then uL g [(gnF g (mtG g (gS g) x.toNatClampNeg y.toNatClampNeg) x.toNatClampNeg y.toNatClampNeg).toInt64, (gS g 45 - mtG g (gS g) x.toNatClampNeg y.toNatClampNeg 45).toInt64] else g
theorem c_Would {k : Nat} {h : Hp} {g : GS} {x y : Int32} (a : CI h g) (z : Sz g) : Ct alC mX11_would (k + 6) [vR 11 0, vI x, vI y] h (fun v h' => v = vI (aWould g x y) ∧ CI h' (nWould g x y)) := by
  have hn := z.1
  refine ct_vc tX11_would [] 80 okC kX11_would rfl ?_
  refine ⟨_, c_foresee a z, ?_⟩
  rintro v h1 ⟨rfl, -, a1, e1⟩
  refine ⟨fun c => ?_, fun c => ?_⟩
  · have c2 : hnF (gN g) (gS g) x y = 0 := Classical.byContradiction fun q => absurd ((aFight_sg z.1).mpr q) (i_ltn c)
    obtain ⟨p, q, hp, hq, hpq, rfl, rfl⟩ := hnF_in z.1 c2
    have hp8 : p < 8 := by omega
    have hq8 : q < 8 := by omega
    have hpc : (nI p).toNatClampNeg = p := nI_clamp (by omega)
    have hqc : (nI q).toNatClampNeg = q := nI_clamp (by omega)
    rw [if_pos c2, hpc, hqc] at e1
    unfold aWould nWould aFight
    rw [if_pos c2, if_pos c2, if_pos c2, hpc, hqc]
    obtain ⟨s', hs'⟩ : ∃ s', mtG g (gS g) p q = s' := ⟨_, rfl⟩
    obtain ⟨w, hw'⟩ : ∃ w, wnG g (gS g) p q = w := ⟨_, rfl⟩
    have hw : w = p ∨ w = q := by rw [← hw']; exact wnF_in
    rw [hs'] at e1 ⊢
    rw [hw']
    have el := nI_los hw
    have hl8 : p + q - w < 8 := by rcases hw with e | e <;> rw [e] <;> clear a z a1 e1 hs' hw' c <;> omega
    clear hs' hw'
    refine ⟨_, c_clrG a1, ?_⟩
    rintro v h2 ⟨a2, e2⟩
    refine ⟨_, c_foreseenGain (s' := s') a2 (by rw [e2]; exact e1), ?_⟩
    rintro v h3 ⟨rfl, rfl⟩
    refine ⟨_, c_addG a2 (by show (0 : Nat) < 8; decide), ?_⟩
    rintro v h4 ⟨a4, e4⟩
    refine ⟨_, c_means, ?_⟩
    rintro v h5 ⟨rfl, rfl⟩
    refine ⟨_, c_means, ?_⟩
    rintro v h6 ⟨rfl, rfl⟩
    refine ⟨_, c_addG a4 (by show (1 : Nat) < 8; decide), ?_⟩
    rintro v h7 ⟨a7, e7⟩
    refine ⟨_, ct_cv (c_isDead hl8) (congrArg (fun x => [vR 8 2, vI x]) el) rfl, ?_⟩
    rintro v h8 ⟨rfl, rfl⟩
    have q2 : h6.1 33 2 = s' := by rw [e4, e2, e1]
    have q7 : h8.1 33 2 = s' := by rw [e7, q2]
    have q0 : h6.1 33 0 = gS g := a4.1.1
    rw [q2, q0] at a7
    rw [q7]
    refine ⟨fun c5 => ⟨?_, a7⟩, fun c5 => ⟨?_, a7⟩⟩
    · unfold wdS; rw [if_neg (of_decide_eq_false (b2_0.mp c5))]
    · unfold wdS; rw [if_pos (of_decide_eq_true (b2_n0.mp c5))]
  · have c2 : ¬ hnF (gN g) (gS g) x y = 0 := (aFight_sg z.1).mp (i_nle c)
    unfold aWould nWould aFight
    rw [if_neg c2, if_neg c2, if_neg c2]
    exact ⟨rfl, a1⟩
