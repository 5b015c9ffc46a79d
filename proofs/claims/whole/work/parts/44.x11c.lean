/-! the class's FIGHT -/
theorem c_Fight {k : Nat} {h : Hp} {g : GS} {x y : Int32} (a : CI h g) (z : Sz g) : Ct alC mX11_fight (k + 5) [vR 11 0, vI x, vI y] h (fun v h' => v = vI (aFight g x y) ∧ CI h' (nFight g x y)) := by
  refine ct_vc tX11_fight [(73, [true, true, true, true])] 80 okC kX11_fight rfl ?_
  refine ⟨_, c_take, ?_⟩
  rintro v h' rfl
  have b := a.bef
  have b33 : (sV h 33 1 (h.1 33 0)).1 33 0 = gS g := b.1.1
  refine ⟨_, c_meetW (b.wd z), ?_⟩
  rw [b33]
  rintro v h1 ⟨rfl, f1, g1⟩
  have hsg := meet_sg (n := gN g) (s := gS g) (x := x) (y := y) (c := gC g) (R := gR g) z.1
  refine ⟨fun c => ?_, fun c => ?_⟩
  · have c2 : hnF (gN g) (gS g) x y = 0 := Classical.byContradiction fun q => absurd (hsg.mpr q) (i_ltn c)
    obtain ⟨p, q, hp, hq, hpq, rfl, rfl⟩ := hnF_in z.1 c2
    have hn8 := z.1
    rw [if_pos c2] at g1
    unfold aFight nFight
    rw [if_pos c2, if_pos c2, if_pos c2]
    rw [nI_clamp (show p < 2 ^ 31 by omega), nI_clamp (show q < 2 ^ 31 by omega)] at g1 ⊢
    obtain ⟨s', hs'⟩ : ∃ s', mtG g (gS g) p q = s' := ⟨_, rfl⟩
    obtain ⟨w, hw'⟩ : ∃ w, wnG g (gS g) p q = w := ⟨_, rfl⟩
    have hw : w = p ∨ w = q := by rw [← hw']; exact wnF_in
    rw [show mtF (gC g) (gR g) (nI (lsG g)) (gW g) (gS g) p q = mtG g (gS g) p q from rfl, hs'] at g1
    rw [show wnF (gC g) (gR g) (gS g) p q = wnG g (gS g) p q from rfl, hw', hs']
    have ci := b.nowF b.2.2.2.2.2.1.1 f1 g1
    have e1 : h1.1 33 1 = gS g := by rw [f1.2 33 1 (by simp), sV_same, a.1.1]
    sorry
  · have c2 : ¬ hnF (gN g) (gS g) x y = 0 := hsg.mp (i_nle c)
    rw [if_neg c2] at g1
    unfold aFight nFight
    rw [if_neg c2, if_neg c2, if_neg c2]
    have ci := b.nowF b.2.2.2.2.2.1.1 f1 g1
    exact ⟨rfl, ci⟩
