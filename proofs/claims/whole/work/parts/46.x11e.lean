/-! the class's calls: beats, sword, worth, hires -/
/-- beats: who is beaten, how many die -/
def btS (g : GS) (p : Nat) : Nat → Int32 × Int32
  | 0 => (nI 0, nI 0)
  | t + 1 => if aFight g (nI p) (nI t) = nI p then ((btS g p t).1 ||| bit t, (btS g p t).2 + (if mtG g (gS g) p t (32 + t) = nI 1 then nI 1 else nI 0)) else btS g p t
def aBeats (g : GS) (x : Int32) : Int32 := if hasN x (gN g) = true then (if canF (gS g) x.toNatClampNeg = true then (btS g x.toNatClampNeg (gN g)).1 else -(nI 2)) else -(nI 1)
def nBeats (g : GS) (x : Int32) : GS := if hasN x (gN g) = true then (if canF (gS g) x.toNatClampNeg = true then uL g [(btS g x.toNatClampNeg (gN g)).2.toInt64] else g) else g
theorem aFight_win {g : GS} {p : Nat} {y : Int32} (hp : p < 8) (h : aFight g (nI p) y = nI p) : hnF (gN g) (gS g) (nI p) y = 0 := by
  refine Classical.byContradiction fun q => ?_
  unfold aFight at h
  rw [if_neg q] at h
  have := hnF_neg q
  rw [h] at this
  exact (i_ltn (nI_le (Nat.zero_le p) (by omega))) this
theorem c_Beats {k : Nat} {h : Hp} {g : GS} {x : Int32} (a : CI h g) (z : Sz g) : Ct alC mX11_beats (k + 6) [vR 11 0, vI x] h (fun v h' => v = vI (aBeats g x) ∧ CI h' (nBeats g x)) := by
  have hn := z.1
  refine ct_vc tX11_beats [(34, [true, true, true, true, true])] 40 okC kX11_beats rfl ?_
  refine ⟨_, c_has a.2.1.2.1, ?_⟩
  rintro v h' ⟨rfl, rfl⟩
  unfold aBeats nBeats
  refine ⟨fun c => ?_, fun c => ?_⟩
  · have c' := b2_n0.mp c
    simp only [if_pos c']
    obtain ⟨p, hp, rfl⟩ := hasN_get c' (by omega)
    rw [nI_clamp (by omega)]
    refine ⟨_, c_canFight (by omega), ?_⟩
    rintro v h' ⟨rfl, rfl⟩
    rw [a.1.1]
    refine ⟨fun c2 => ?_, fun c2 => ?_⟩
    · simp only [if_pos (b2_n0.mp c2)]
      have L : ∀ t, t ≤ gN g → ∀ h1, CI h1 g → WP alC mX11_beats (k + 6) (fun v h' => v = vI (btS g p (gN g)).1 ∧ CI h' (uL g [(btS g p (gN g)).2.toInt64])) 34 [some (vR 11 0), some (vI (nI p)), some (vI (btS g p t).1), some (vI (btS g p t).2), some (vI (nI t))] [] h1 := by
        refine loop_up (gN g) ?_ (fun t ht ih => ?_)
        · intro h1 a1
          refine wp_at tX11_beats [] 30 34 okC kX11_beats ⟨fun _ => ⟨_, c_clrG a1, ?_⟩, fun c => absurd (by rw [a1.2.1.2.1]; exact nI_le (Nat.le_refl _) (by omega)) c⟩
          rintro v h2 ⟨a2, -⟩
          refine ⟨_, c_addG a2 (by show (0 : Nat) < 8; decide), ?_⟩
          rintro v h3 ⟨a3, -⟩
          exact ⟨rfl, a3⟩
        · intro h1 a1
          rw [btS, ← nI_add t 1] at ih
          refine wp_at tX11_beats [(34, [true, true, true, true, true])] 60 34 okC kX11_beats ⟨fun c => absurd c (by rw [a1.2.1.2.1]; exact nI_ge ht (by omega)), fun _ => ⟨_, c_foresee a1 z, ?_⟩⟩
          rintro v h2 ⟨rfl, -, a2, e2⟩
          refine ⟨fun c5 => ?_, fun c5 => ?_⟩
          · rw [if_neg c5] at ih
            exact ih h2 a2
          · have c6 := nn c5
            have c7 := aFight_win (by omega) c6
            rw [if_pos c6] at ih
            rw [if_pos c7, nI_clamp (by omega), nI_clamp (by omega)] at e2
            refine ⟨_, c_isDead (by omega), ?_⟩
            rintro v h3 ⟨rfl, rfl⟩
            rw [e2]
            refine ⟨fun c8 => ?_, fun c8 => ?_⟩
            · rw [if_neg (of_decide_eq_false (b2_0.mp c8))] at ih
              exact ih h3 a2
            · rw [if_pos (of_decide_eq_true (b2_n0.mp c8))] at ih
              exact ih h3 a2
      exact L 0 (Nat.zero_le _) h' a
    · simp only [if_neg (show ¬ canF (gS g) p = true by rw [b2_0.mp (nn c2)]; decide)]
      exact ⟨rfl, a⟩
  · simp only [if_neg (show ¬ hasN x (gN g) = true by rw [b2_0.mp (nn c)]; decide)]
    exact ⟨rfl, a⟩
/-- sword: fights till the wooden sword -/
def swR (g : GS) (p q : Nat) : Nat → Nat → Sta → Int32
  | 0, _, _ => -(nI 2)
  | f + 1, i, s => if hnF (gN g) s (nI p) (nI q) = 0 then (if mtG g s p q (32 + p) = nI 2 then nI i else swR g p q f (i + 1) (psF (gN g) (mtG g s p q) (nI 1))) else -(nI 2)
theorem swR_s (g : GS) (p q f i : Nat) (s : Sta) : swR g p q (f + 1) i s = if hnF (gN g) s (nI p) (nI q) = 0 then (if mtG g s p q (32 + p) = nI 2 then nI i else swR g p q f (i + 1) (psF (gN g) (mtG g s p q) (nI 1))) else -(nI 2) := rfl
def aSword (g : GS) (x y : Int32) : Int32 := if hasN x (gN g) = true ∧ hasN y (gN g) = true ∧ x ≠ y then (if hnF (gN g) (gS g) x y = 0 then swR g x.toNatClampNeg y.toNatClampNeg 9 1 (gS g) else -(nI 3)) else -(nI 1)
theorem fr2 {h h' : Hp} {g : GS} {b : Nat} (a : CI h g) (hb : b < 2) (f : Fr [(33, 2), (27, b)] h h') : CI h' g := by
  refine a.scr f ?_
  intro q hq
  have hb2 : b = 0 ∨ b = 1 := by omega
  rcases hb2 with e | e <;> rw [e] at hq <;> simp at hq <;> rcases hq with rfl | rfl <;> simp [scrL]
theorem c_Sword {k : Nat} {h : Hp} {g : GS} {x y : Int32} (a : CI h g) (z : Sz g) : Ct alC mX11_sword (k + 6) [vR 11 0, vI x, vI y] h (fun v h' => v = vI (aSword g x y) ∧ CI h' g) := by
  have hn := z.1
  have E : ¬ (hasN x (gN g) = true ∧ hasN y (gN g) = true ∧ x ≠ y) → WP alC mX11_sword (k + 6) (fun v h' => v = vI (aSword g x y) ∧ CI h' g) 27 [none, none, none, none] [] h := by
    intro hno
    refine wp_at tX11_sword [] 10 27 okC kX11_sword ⟨?_, a⟩
    unfold aSword
    rw [if_neg hno]
  refine ct_vc tX11_sword [(27, [false, false, false, false]), (61, [true, true, true, true])] 60 okC kX11_sword rfl ?_
  refine ⟨_, c_has a.2.1.2.1, ?_⟩
  rintro v h' ⟨rfl, rfl⟩
  refine ⟨fun c => E (fun z => by rw [z.1] at c; exact absurd c (by decide)), fun c => ⟨_, c_has a.2.1.2.1, ?_⟩⟩
  rintro v h' ⟨rfl, rfl⟩
  refine ⟨fun c2 => E (fun z => by rw [z.2.1] at c2; exact absurd c2 (by decide)), fun c2 => ⟨fun c3 => ?_, fun c3 => E (fun z => z.2.2 (nn c3))⟩⟩
  have hall : hasN x (gN g) = true ∧ hasN y (gN g) = true ∧ x ≠ y := ⟨b2_n0.mp c, b2_n0.mp c2, c3⟩
  unfold aSword
  simp only [if_pos hall]
  refine ⟨_, c_take, ?_⟩
  rintro v h1 rfl
  have a1 := a.tri (s := h'.1 33 0)
  refine ⟨_, c_hindrance a1.2.1.2.1 z.1, ?_⟩
  rintro v h2 ⟨rfl, rfl⟩
  rw [sV_same, a.1.1]
  obtain ⟨p, hp, rfl⟩ := hasN_get hall.1 (by omega)
  obtain ⟨q, hq, rfl⟩ := hasN_get hall.2.1 (by omega)
  rw [nI_clamp (show p < 2 ^ 31 by omega), nI_clamp (show q < 2 ^ 31 by omega)]
  refine ⟨fun c4 => ?_, fun c4 => ?_⟩
  · have c4' : hnF (gN g) (gS g) (nI p) (nI q) = 0 := c4
    simp only [if_pos c4']
    have L : ∀ f i s h1, i + f = 10 → CI h1 g → h1.1 33 2 = s → swR g p q 9 1 (gS g) = swR g p q f i s → WP alC mX11_sword (k + 6) (fun v h' => v = vI (swR g p q 9 1 (gS g)) ∧ CI h' g) 61 [some (vR 11 0), some (vI (nI p)), some (vI (nI q)), some (vI (nI i))] [] h1 := by
      intro f
      induction f with
      | zero =>
        intro i s h1 e1 a1 es e
        refine wp_at tX11_sword [] 20 61 okC kX11_sword ⟨fun _ => ⟨?_, a1⟩, fun c => absurd (nI_lt (show 9 < i by omega) (by omega)) c⟩
        rw [e]; rfl
      | succ f ih =>
        intro i s h1 e1 a1 es e
        have nge : ¬ nI 9 < nI i := i_ltn (nI_le (by omega) (by omega))
        refine wp_at tX11_sword [(61, [true, true, true, true])] 60 61 okC kX11_sword ⟨fun c => absurd c nge, fun _ => ⟨_, c_meetW (a1.wd z), ?_⟩⟩
        rw [es]
        rintro v h2 ⟨rfl, f2, g2⟩
        have a2 := fr2 a1 a1.2.2.2.2.2.1.1 f2
        rw [swR_s g p q f i s] at e
        have hsg := meet_sg (n := gN g) (s := s) (x := nI p) (y := nI q) (c := gC g) (R := gR g) z.1
        refine ⟨fun c5 => ?_, fun c5 => ?_⟩
        · have c6 : hnF (gN g) s (nI p) (nI q) = 0 := Classical.byContradiction fun w => absurd (hsg.mpr w) (i_ltn c5)
          rw [if_pos c6, nI_clamp (show p < 2 ^ 31 by omega), nI_clamp (show q < 2 ^ 31 by omega)] at g2
          rw [if_pos c6] at e
          refine ⟨_, c_fate (by omega), ?_⟩
          rintro v h3 ⟨rfl, rfl⟩
          rw [g2]
          refine ⟨fun c7 => ?_, fun c7 => ?_⟩
          · have c7' : ¬ mtG g s p q (32 + p) = nI 2 := c7
            rw [if_neg c7'] at e
            refine ⟨_, c_pass a2.2.1.2.1 z.1, ?_⟩
            rw [if_pos (show okD (nI 1) = true by decide), if_pos (show okD (nI 1) = true by decide), g2]
            rintro v h4 ⟨rfl, rfl⟩
            have := ih (i + 1) (psF (gN g) (mtG g s p q) (nI 1)) (sV h3 33 2 (psF (gN g) (mtG g s p q) (nI 1))) (by omega) a2.tri sV_same e
            rw [← nI_add i 1] at this
            exact this
          · have c7' : mtG g s p q (32 + p) = nI 2 := nn c7
            rw [if_pos c7'] at e
            exact ⟨congrArg vI e.symm, a2⟩
        · have c6 : ¬ hnF (gN g) s (nI p) (nI q) = 0 := hsg.mp (i_nle c5)
          rw [if_neg c6] at e
          exact ⟨congrArg vI e.symm, a2⟩
    rw [a.1.1] at a1
    exact L 9 1 (gS g) _ rfl a1 sV_same rfl
  · simp only [if_neg (show ¬ hnF (gN g) (gS g) (nI p) (nI q) = 0 from c4)]
    rw [a.1.1] at a1
    exact ⟨rfl, a1⟩
/-- worth: the sum, how many, the dearest one, its price -/
def woP (g : GS) (j : Nat) : Int32 := gR g 2 j * (if spL g (gS g j) = true then nI 20 else nI 50)
def woS (g : GS) (o : Int32) : Nat → Int32 × Int32 × Int32 × Int32
  | 0 => (nI 0, nI 0, -(nI 1), nI 0)
  | t + 1 => if gR g 3 t = o ∧ gS g (32 + t) = 0 then ((woS g o t).1 + woP g t, (woS g o t).2.1 + nI 1, if (woS g o t).2.2.2 < woP g t then nI t else (woS g o t).2.2.1, if (woS g o t).2.2.2 < woP g t then woP g t else (woS g o t).2.2.2) else woS g o t
def aWorth (g : GS) (x : Int32) : Int32 := if hasN x 4 = true then (woS g x (gN g)).1 else -(nI 1)
def nWorth (g : GS) (x : Int32) : GS := if hasN x 4 = true then uL g [(woS g x (gN g)).2.1.toInt64, (woS g x (gN g)).2.2.1.toInt64] else g
def bhB (g : GS) (set best : Int32) : Bool := decide (0 < bcF set - bcF best) || (decide (bcF set - bcF best = 0) && decide (fvF (gS g) best 8 < fvF (gS g) set 8))
theorem c_isBetterHire {k : Nat} {h : Hp} {g : GS} {x y : Int32} (a : CI h g) : Ct alC mX11_isBetterHire (k + 2) [vR 11 0, vI x, vI y] h (Rd h (b2 (bhB g x y))) := by
  refine ct_vc tX11_isBetterHire [] 40 okC kX11_isBetterHire rfl ?_
  refine ⟨_, c_bitCount okC, ?_⟩
  rintro v h' ⟨rfl, rfl⟩
  refine ⟨_, c_bitCount okC, ?_⟩
  rintro v h' ⟨rfl, rfl⟩
  unfold bhB
  rw [← a.1.1]
  refine ⟨fun c => ⟨Or.inr rfl, bT ?_, rfl⟩, fun c => ⟨fun c2 => ⟨Or.inl rfl, bF ?_, rfl⟩, fun c2 => ⟨_, c_favourOf, ?_⟩⟩⟩
  · rw [dT c]; rfl
  · rw [dF c, dF c2]; rfl
  · rintro v h' ⟨rfl, rfl⟩
    refine ⟨_, c_favourOf, ?_⟩
    rintro v h' ⟨rfl, rfl⟩
    refine ⟨fun c3 => ⟨Or.inl rfl, bF ?_, rfl⟩, fun c3 => ⟨Or.inr rfl, bT ?_, rfl⟩⟩
    · rw [dF c, dT (nn c2), dF (i_ltn c3)]; rfl
    · rw [dF c, dT (nn c2), dT (i_nle c3)]; rfl
/-- hires: the best set of those up to t -/
def hrS (g : GS) (e : Nat) (n : Int32) : Nat → Int32
  | 0 => nI 0
  | t + 1 => if (nI (t + 1) &&& (nI e ^^^ -(nI 1)) = 0 ∧ csF (gR g 2) (nI (t + 1)) (gN g) ≤ n) ∧ bhB g (nI (t + 1)) (hrS g e n t) = true then nI (t + 1) else hrS g e n t
def abN (g : GS) : Nat := bsN (canF (gS g)) (gN g)
def okH (n : Int32) : Bool := decide (0 ≤ n) && decide (n ≤ nI 99)
def aHires (g : GS) (n : Int32) : Int32 := if okH n = true then bcF (hrS g (abN g) n (abN g)) else -(nI 1)
def nHires (g : GS) (n : Int32) : GS := if okH n = true then uL g [(hrS g (abN g) n (abN g)).toInt64, (csF (gR g 2) (hrS g (abN g) n (abN g)) (gN g)).toInt64] else g
theorem c_Hires {k : Nat} {h : Hp} {g : GS} {n : Int32} (a : CI h g) (z : Sz g) : Ct alC mX11_hires (k + 4) [vR 11 0, vI n] h (fun v h' => v = vI (aHires g n) ∧ CI h' (nHires g n)) := by
  have hn := z.1
  have he : abN g < 256 := Nat.lt_of_lt_of_le (bsN_lt _) (p2_le hn)
  have eR : ∀ h1, CI h1 g → h1.1 38 (5 * 0 + 2) = gR g 2 := fun h1 a1 => by rw [← a1.2.1.2.2]
  have NO : ¬ okH n = true → WP alC mX11_hires (k + 4) (fun v h' => v = vI (aHires g n) ∧ CI h' (nHires g n)) 10 [none, none, none, none, none] [] h := by
    intro hno
    refine wp_at tX11_hires [] 10 10 okC kX11_hires ?_
    unfold aHires nHires
    simp only [if_neg hno]
    exact ⟨rfl, a⟩
  have L : okH n = true → ∀ t, t ≤ abN g → WP alC mX11_hires (k + 4) (fun v h' => v = vI (aHires g n) ∧ CI h' (nHires g n)) 29 [some (vR 11 0), some (vI n), some (vI (nI (abN g))), some (vI (hrS g (abN g) n t)), some (vI (nI (t + 1)))] [] h := by
    intro hok
    unfold aHires nHires
    rw [if_pos hok, if_pos hok]
    refine loop_up (abN g) ?_ (fun t ht ih => ?_)
    · refine wp_at tX11_hires [] 40 29 okC kX11_hires ⟨fun _ => ⟨_, c_clrG a, ?_⟩, fun c => absurd (nI_lt (Nat.lt_succ_self _) (by omega)) c⟩
      rintro v h2 ⟨a2, -⟩
      refine ⟨_, c_addG a2 (by show (0 : Nat) < 8; decide), ?_⟩
      rintro v h3 ⟨a3, -⟩
      refine ⟨_, c_lsum a3.2.1.2.1 hn (by omega), ?_⟩
      rintro v h4 ⟨rfl, rfl⟩
      refine ⟨_, c_addG a3 (by show (1 : Nat) < 8; decide), ?_⟩
      rintro v h4 ⟨a4, -⟩
      refine ⟨_, c_bitCount okC, ?_⟩
      rintro v h5 ⟨rfl, rfl⟩
      have e5 : h4.1 38 (5 * 0 + 2) = gR g 2 := by have := a3.2.1.2.2; exact congrFun this 2
      rw [e5] at a4
      exact ⟨rfl, a4⟩
    · rw [hrS, ← nI_add (t + 1) 1] at ih
      refine wp_at tX11_hires [(29, [true, true, true, true, true])] 60 29 okC kX11_hires ⟨fun c => absurd c (i_ltn (nI_le (by omega) (by omega))), fun _ => ⟨fun c => ?_, fun c => ⟨_, c_lsum a.2.1.2.1 hn (by omega), ?_⟩⟩⟩
      · rw [if_neg (fun w => c w.1.1)] at ih; exact ih
      · rintro v h' ⟨rfl, rfl⟩
        rw [eR h' a]
        refine ⟨fun c2 => ?_, fun c2 => ⟨_, c_isBetterHire a, ?_⟩⟩
        · rw [if_neg (fun w => (i_len c2) w.1.2)] at ih; exact ih
        · rintro v h' ⟨rfl, rfl⟩
          refine ⟨fun c3 => ?_, fun c3 => ?_⟩
          · rw [if_neg (fun w => by rw [w.2] at c3; exact absurd c3 (by decide))] at ih; exact ih
          · rw [if_pos ⟨⟨nn c, i_nlt c2⟩, b2_n0.mp c3⟩] at ih; exact ih
  refine ct_vc tX11_hires [(10, [false, false, false, false, false]), (29, [true, true, true, true, true])] 40 okC kX11_hires rfl ?_
  refine ⟨fun c => NO (fun w => by unfold okH at w; rw [dF (i_len c)] at w; cases w), fun c => ⟨fun c2 => ⟨_, c_ableBits a.2.1.2.1 hn, ?_⟩, fun c2 => NO (fun w => by unfold okH at w; rw [dF c2, Bool.and_false] at w; cases w)⟩⟩
  rintro v h' ⟨rfl, rfl⟩
  rw [a.1.1, abF_bs hn]
  exact L (by unfold okH; rw [dT (i_nlt c), dT c2]; rfl) 0 (Nat.zero_le _)
