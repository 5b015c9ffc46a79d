/-! the class's FIGHT -/
theorem nI_los {p q w : Nat} (hw : w = p ∨ w = q) : nI p + nI q - nI w = nI (p + q - w) := by
  have : nI p + nI q = nI (p + q - w) + nI w := by rw [nI_add, nI_add]; congr 1; omega
  rw [this]
  exact Int32.add_sub_cancel _ _
theorem c_Fight {k : Nat} {h : Hp} {g : GS} {x y : Int32} (a : CI h g) (z : Sz g) : Ct alC mX11_fight (k + 5) [vR 11 0, vI x, vI y] h (fun v h' => v = vI (aFight g x y) ∧ CI h' (nFight g x y)) := by
  refine ct_vc tX11_fight [(73, [true, true, true, true])] 80 okC kX11_fight rfl ?_
  refine ⟨_, c_take, ?_⟩
  rintro v h' rfl
  have b := a.bef
  have b33 : (sV h 33 1 (h.1 33 0)).1 33 0 = gS g := b.1.1
  refine ⟨_, c_meetW (b.wd z), ?_⟩
  rw [b33]
  rintro v h1 ⟨rfl, f1, g1⟩
  have hsg := meet_sg (n := gN g) (s := gS g) (x := x) (y := y) (c := gC g) (R := gR g) z.1
  refine ⟨fun c => ?_, fun c => ?_⟩
  · have c2 : hnF (gN g) (gS g) x y = 0 := Classical.byContradiction fun q => absurd (hsg.mpr q) (i_ltn c)
    obtain ⟨p, q, hp, hq, hpq, rfl, rfl⟩ := hnF_in z.1 c2
    have hn8 := z.1
    rw [if_pos c2] at g1
    unfold aFight nFight
    rw [if_pos c2, if_pos c2, if_pos c2]
    rw [nI_clamp (show p < 2 ^ 31 by omega), nI_clamp (show q < 2 ^ 31 by omega)] at g1 ⊢
    obtain ⟨s', hs'⟩ : ∃ s', mtG g (gS g) p q = s' := ⟨_, rfl⟩
    obtain ⟨w, hw'⟩ : ∃ w, wnG g (gS g) p q = w := ⟨_, rfl⟩
    have hw : w = p ∨ w = q := by rw [← hw']; exact wnF_in
    rw [show mtF (gC g) (gR g) (nI (lsG g)) (gW g) (gS g) p q = mtG g (gS g) p q from rfl, hs'] at g1
    rw [show wnF (gC g) (gR g) (gS g) p q = wnG g (gS g) p q from rfl, hw', hs']
    have ci := b.nowF b.2.2.2.2.2.1.1 f1 g1
    have e1 : h1.1 33 1 = gS g := by rw [f1.2 33 1 (by simp), sV_same, a.1.1]
    refine ⟨_, c_pushG ci z.s, ?_⟩
    rw [e1]
    rintro v h2 ci2
    refine ⟨_, c_clrG ci2, ?_⟩
    rintro v h3 ⟨ci3, e3⟩
    have el := nI_los hw
    have s3 : h3.1 33 0 = s' := ci3.1.1
    have rest : ∀ v, (if s' (32 + (p + q - w)) = nI 1 then lN 1 else lN 0) = v → WP alC mX11_fight (k + 5) (fun v h' => v = vI (nI w) ∧ CI h' (uL (doG g s') (rFight g s' p q w))) 73 [some (vR 11 0), some (vI (nI p)), some (vI (nI q)), some (vI (nI w))] [vL v, vR 5 0] h3 := by
      intro v hv
      refine wp_at tX11_fight [] 60 73 okC kX11_fight ⟨_, c_addG ci3 (by show (0 : Nat) < 8; omega), ?_⟩
      rintro _ h4 ⟨ci4, -⟩
      refine ⟨_, c_favour (by omega), ?_⟩
      rintro _ h5 ⟨rfl, rfl⟩
      refine ⟨_, c_addG ci4 (by show (1 : Nat) < 8; omega), ?_⟩
      rintro _ h6 ⟨ci6, -⟩
      refine ⟨_, c_favour (by omega), ?_⟩
      rintro _ h7 ⟨rfl, rfl⟩
      refine ⟨_, c_addG ci6 (by show (2 : Nat) < 8; omega), ?_⟩
      rintro _ h8 ⟨ci8, -⟩
      refine ⟨_, c_means, ?_⟩
      rintro _ h9 ⟨rfl, rfl⟩
      refine ⟨_, c_addG ci8 (by show (3 : Nat) < 8; omega), ?_⟩
      rintro _ h10 ⟨ci10, -⟩
      refine ⟨rfl, ?_⟩
      have q4 : h5.1 33 0 = s' := ci4.1.1
      have q6 : h7.1 33 0 = s' := ci6.1.1
      have q8 : h9.1 33 0 = s' := ci8.1.1
      rw [q4, q6, q8, ← hv] at ci10
      exact ci10
    refine ⟨_, ct_cv (c_isDead (by omega)) (congrArg (fun x => [vR 8 0, vI x]) el) rfl, ?_⟩
    rintro v h4 ⟨rfl, rfl⟩
    rw [s3]
    refine ⟨fun c5 => rest _ ?_, fun c5 => rest _ ?_⟩
    · rw [if_neg (of_decide_eq_false (b2_0.mp c5))]
    · rw [if_pos (of_decide_eq_true (b2_n0.mp c5))]
  · have c2 : ¬ hnF (gN g) (gS g) x y = 0 := hsg.mp (i_nle c)
    rw [if_neg c2] at g1
    unfold aFight nFight
    rw [if_neg c2, if_neg c2, if_neg c2]
    have ci := b.nowF b.2.2.2.2.2.1.1 f1 g1
    exact ⟨rfl, ci⟩
