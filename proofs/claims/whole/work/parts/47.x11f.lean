/-! the class's worth -/
theorem c_Worth {k : Nat} {h : Hp} {g : GS} {x : Int32} (a : CI h g) (z : Sz g) : Ct alC mX11_worth (k + 3) [vR 11 0, vI x] h (fun v h' => v = vI (aWorth g x) ∧ CI h' (nWorth g x)) := by
  have hn := z.1
  have L : hasN x 4 = true → ∀ t, t ≤ gN g → WP alC mX11_worth (k + 3) (fun v h' => v = vI (aWorth g x) ∧ CI h' (nWorth g x)) 22 [some (vR 11 0), some (vI x), some (vI (woS g x t).1), some (vI (woS g x t).2.1), some (vI (woS g x t).2.2.1), some (vI (woS g x t).2.2.2), some (vI (nI t)), none] [] h := by
    intro hx
    unfold aWorth nWorth
    rw [if_pos hx, if_pos hx]
    refine loop_up (gN g) ?_ (fun t ht ih => ?_)
    · refine wp_at tX11_worth [] 40 22 okC kX11_worth ⟨fun _ => ⟨_, c_clrG a, ?_⟩, fun c => absurd (by rw [a.2.1.2.1]; exact nI_le (Nat.le_refl _) (by omega)) c⟩
      rintro v h2 ⟨a2, -⟩
      refine ⟨_, c_addG a2 (by show (0 : Nat) < 8; decide), ?_⟩
      rintro v h3 ⟨a3, -⟩
      refine ⟨_, c_addG a3 (by show (1 : Nat) < 8; decide), ?_⟩
      rintro v h4 ⟨a4, -⟩
      exact ⟨rfl, a4⟩
    · rw [← nI_add t 1] at ih
      have eR : ∀ p, h.1 38 (5 * 0 + p) t = gR g p t := fun p => by rw [← a.2.1.2.2]
      have NO : ¬ (gR g 3 t = x ∧ gS g (32 + t) = 0) → WP alC mX11_worth (k + 3) (fun v h' => v = vI (woS g x (gN g)).1 ∧ CI h' (uL g [(woS g x (gN g)).2.1.toInt64, (woS g x (gN g)).2.2.1.toInt64])) 125 [some (vR 11 0), some (vI x), some (vI (woS g x t).1), some (vI (woS g x t).2.1), some (vI (woS g x t).2.2.1), some (vI (woS g x t).2.2.2), some (vI (nI t)), none] [] h := by
        intro hno
        rw [woS, if_neg hno] at ih
        exact wp_at tX11_worth [(22, [true, true, true, true, true, true, true, false])] 10 125 okC kX11_worth ih
      refine wp_at tX11_worth [(125, [true, true, true, true, true, true, true, false]), (99, [true, true, true, true, true, true, true, false])] 60 22 okC kX11_worth ⟨fun c => absurd c (by rw [a.2.1.2.1]; exact nI_ge ht (by omega)), fun _ => ⟨_, c_of (by omega) (by omega), ?_⟩⟩
      rintro v h' ⟨rfl, rfl⟩
      rw [eR 3]
      refine ⟨fun c => NO (fun w => c w.1), fun c => ⟨_, c_isHere (by omega), ?_⟩⟩
      rintro v h' ⟨rfl, rfl⟩
      rw [a.1.1]
      refine ⟨fun c2 => ?_, fun c2 => NO (fun w => of_decide_eq_false (b2_0.mp (nn c2)) w.2)⟩
      have hyes : gR g 3 t = x ∧ gS g (32 + t) = 0 := ⟨nn c, of_decide_eq_true (b2_n0.mp c2)⟩
      rw [woS, if_pos hyes] at ih
      have F : ∀ m, (if spL g (gS g t) = true then nI 20 else nI 50) = m → WP alC mX11_worth (k + 3) (fun v h' => v = vI (woS g x (gN g)).1 ∧ CI h' (uL g [(woS g x (gN g)).2.1.toInt64, (woS g x (gN g)).2.2.1.toInt64])) 99 [some (vR 11 0), some (vI x), some (vI (woS g x t).1), some (vI (woS g x t).2.1), some (vI (woS g x t).2.2.1), some (vI (woS g x t).2.2.2), some (vI (nI t)), none] [vI m, vI (gR g 2 t)] h' := by
        intro m hm
        have ep : gR g 2 t * m = woP g t := by unfold woP; rw [hm]
        refine wp_at tX11_worth [(22, [true, true, true, true, true, true, true, false])] 40 99 okC kX11_worth ?_
        refine ⟨fun c3 => ?_, fun c3 => ?_⟩
        · have c3' : gR g 2 t * m ≤ (woS g x t).2.2.2 := c3
          rw [ep] at c3'
          rw [if_neg (i_ltn c3'), if_neg (i_ltn c3'), ← ep] at ih
          exact ih
        · have c3' : ¬ gR g 2 t * m ≤ (woS g x t).2.2.2 := c3
          rw [ep] at c3'
          rw [if_pos (i_nle c3'), if_pos (i_nle c3'), ← ep] at ih
          exact ih
      refine ⟨_, c_of (by omega) (by omega), ?_⟩
      rintro v h' ⟨rfl, rfl⟩
      rw [eR 2]
      refine ⟨_, c_favour (by omega), ?_⟩
      rintro v h' ⟨rfl, rfl⟩
      refine ⟨_, c_spares, ?_⟩
      rintro v h' ⟨rfl, rfl⟩
      rw [show h'.1 1 0 1 = nI (lsG g) from a.2.2.1.2.2.2, a.1.1]
      refine ⟨fun c3 => F _ ?_, fun c3 => F _ ?_⟩
      · rw [show spL g (gS g t) = false from b2_0.mp c3]; rfl
      · rw [show spL g (gS g t) = true from b2_n0.mp c3]; rfl
  have e0 : woS g x 0 = (nI 0, nI 0, -(nI 1), nI 0) := rfl
  have S9 : hasN x 4 = true → WP alC mX11_worth (k + 3) (fun v h' => v = vI (aWorth g x) ∧ CI h' (nWorth g x)) 9 [some (vR 11 0), some (vI x), none, none, none, none, none, none] [] h := by
    intro hx
    have := L hx 0 (Nat.zero_le _)
    rw [e0] at this
    exact wp_at tX11_worth [(22, [true, true, true, true, true, true, true, false])] 30 9 okC kX11_worth this
  refine ct_vc tX11_worth [(9, [true, true, false, false, false, false, false, false])] 30 okC kX11_worth rfl ?_
  refine ⟨_, c_isOwner, ?_⟩
  rintro v h' ⟨rfl, rfl⟩
  refine ⟨fun c => S9 (b2_n0.mp c), fun c => ?_⟩
  unfold aWorth nWorth
  simp only [if_neg (show ¬ hasN x 4 = true by rw [b2_0.mp (nn c)]; decide)]
  exact ⟨rfl, a⟩
