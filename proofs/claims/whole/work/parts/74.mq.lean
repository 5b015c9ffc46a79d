/-! the reference: sheet, counts, the crowd's questions -/
theorem m_Sheet {B k : Nat} {h : Hp} {g : GS} {kd n f st : Int32} (a : MI B h g) (z : Sz g) : Ct alM mX12_sheet (k + 1) [vR 12 0, vI kd, vI n, vI f, vI st] h (fun x h' => x = vI (aSheet g kd n f st) ∧ MI B h' (nSheet g kd n f st)) := by
  have hn8 := z.1
  have a0 := a.fld (j := 10) (x := nI 0) (by decide)
  obtain ⟨h0, hh0⟩ : ∃ h0, sX h 12 0 10 (nI 0) = h0 := ⟨_, rfl⟩
  rw [hh0] at a0
  have en : ∀ s, (sV h0 40 0 s).1 12 0 1 = nI (gN g) := fun s => by rw [rdV, if_neg (by simp)]; exact a0.n1
  have E : ¬ (0 ≤ kd ∧ kd ≤ nI 3 ∧ n ≤ nI 8) → WP alM mX12_sheet (k + 1) (fun x h' => x = vI (aSheet g kd n f st) ∧ MI B h' (nSheet g kd n f st)) 20 [none, none, none, none, none, none, none, none, none] [] h0 := by
    intro hno
    refine wp_at tX12_sheet [] 10 20 okM kX12_sheet ?_
    unfold aSheet nSheet
    rw [if_neg hno, if_neg hno]
    exact ⟨rfl, a0⟩
  have L : (0 ≤ kd ∧ kd ≤ nI 3 ∧ n ≤ nI 8) → ¬ (kd ≠ nI 3 ∧ n < 0) → ∀ t, t ≤ gN g → WP alM mX12_sheet (k + 1) (fun x h' => x = vI (aSheet g kd n f st) ∧ MI B h' (nSheet g kd n f st)) 43 [some (vR 12 0), some (vI kd), some (vI n), none, some (vI st), some (vI (smF (shV kd n f st) t)), some (vI (f + nI t * st)), some (vI (nI t)), none] [] (sV h0 40 0 (mS (shS (gS g) kd n f st t))) := by
    intro hyes h2
    refine loop_up (gN g) ?_ (fun t ht ih => ?_)
    · refine wp_at tX12_sheet [] 30 43 okM kX12_sheet ⟨fun _ => ?_, fun c => absurd (by rw [en]; exact nI_le (Nat.le_refl _) (by omega)) c⟩
      unfold aSheet nSheet
      rw [if_pos hyes, if_pos hyes, if_neg h2, if_neg h2]
      refine ⟨fun c => ⟨?_, a0.nw⟩, fun c => ⟨?_, a0.nw⟩⟩
      · rw [if_neg c]
      · rw [if_pos (nn c)]
    · have ev : f + nI (t + 1) * st = f + nI t * st + st := by
        rw [← nI_add, Int32.add_mul, show nI 1 * st = st from Int32.one_mul _, Int32.add_assoc]
      rw [smF, shS, ev, ← nI_add t 1] at ih
      have G : ∀ x, shV kd n f st t = x → WP alM mX12_sheet (k + 1) (fun x h' => x = vI (aSheet g kd n f st) ∧ MI B h' (nSheet g kd n f st)) 109 [some (vR 12 0), some (vI kd), some (vI n), none, some (vI st), some (vI (smF (shV kd n f st) t)), some (vI (f + nI t * st)), some (vI (nI t)), none] [vI x, vI (nI t), vR 40 0] (sV h0 40 0 (mS (shS (gS g) kd n f st t))) := by
        intro x hx
        rw [hx] at ih
        refine wp_at tX12_sheet [(43, [true, true, true, false, true, true, true, true, false])] 30 109 okM kX12_sheet ⟨ix1 47 (by omega), ix1 47 (by omega), ?_⟩
        rw [nI_clamp (by omega), sV_sX, mS_ulo (by omega), sV_same, mS_lo (by omega), upd_s]
        exact ih
      have M : ∀ e, (if kd = nI 0 then (f + nI t * st).toInt8.toInt32 else if kd = nI 1 then (f + nI t * st).toInt16.toInt32 else (f + nI t * st)) = e → WP alM mX12_sheet (k + 1) (fun x h' => x = vI (aSheet g kd n f st) ∧ MI B h' (nSheet g kd n f st)) 75 [some (vR 12 0), some (vI kd), some (vI n), none, some (vI st), some (vI (smF (shV kd n f st) t)), some (vI (f + nI t * st)), some (vI (nI t)), none] [vI e] (sV h0 40 0 (mS (shS (gS g) kd n f st t))) := by
        intro e he
        refine wp_at tX12_sheet [(109, [true, true, true, false, true, true, true, true, false])] 40 75 okM kX12_sheet ⟨fun c => G _ ?_, fun c => ⟨fun c2 => G _ ?_, fun c2 => G _ ?_⟩⟩
        · unfold shV; rw [if_pos (Or.inl c)]
        · unfold shV shE
          rw [if_neg (fun q => q.elim c (i_len c2)), he]
          rfl
        · unfold shV; rw [if_pos (Or.inr (i_nlt c2))]
      refine wp_at tX12_sheet [(75, [true, true, true, false, true, true, true, true, false])] 40 43 okM kX12_sheet ⟨fun c => absurd c (by rw [en]; exact nI_ge ht (by omega)), fun _ => ⟨fun c => ⟨fun c2 => M _ ?_, fun c2 => M _ ?_⟩, fun c => M _ ?_⟩⟩
      · rw [if_neg (show ¬ kd = nI 0 from c), if_neg c2]
      · rw [if_neg (show ¬ kd = nI 0 from c), if_pos (nn c2)]
      · rw [if_pos (show kd = nI 0 from nn c)]
  have S34 : (0 ≤ kd ∧ kd ≤ nI 3 ∧ n ≤ nI 8) → ¬ (kd ≠ nI 3 ∧ n < 0) → WP alM mX12_sheet (k + 1) (fun x h' => x = vI (aSheet g kd n f st) ∧ MI B h' (nSheet g kd n f st)) 34 [some (vR 12 0), some (vI kd), some (vI n), some (vI f), some (vI st), none, none, none, none] [] h0 := by
    intro hyes h2
    have := L hyes h2 0 (Nat.zero_le _)
    have e0 : f + nI 0 * st = f := by rw [show nI 0 * st = 0 from Int32.zero_mul]; exact Int32.add_zero _
    rw [shS, ← a0.1.1, sV_id, e0] at this
    exact wp_at tX12_sheet [(43, [true, true, true, false, true, true, true, true, false])] 20 34 okM kX12_sheet this
  refine ct_vc tX12_sheet [(5, [true, true, true, true, true, false, false, false, false])] 10 okM kX12_sheet rfl ?_
  show WP alM mX12_sheet (k + 1) _ 5 [some (vR 12 0), some (vI kd), some (vI n), some (vI f), some (vI st), none, none, none, none] [] (sX h 12 0 10 (nI 0))
  rw [hh0]
  refine wp_at tX12_sheet [(20, [false, false, false, false, false, false, false, false, false]), (34, [true, true, true, true, true, false, false, false, false])] 40 5 okM kX12_sheet ⟨_, c_min, ?_⟩
  rintro v h1 ⟨rfl, rfl⟩
  refine ⟨fun c => E (fun q => ?_), fun c => ⟨fun c2 => ?_, fun c2 => E (fun q => c2 q.2.2)⟩⟩
  · have : inB (nI 0) (nI 3) kd = true := by unfold inB; rw [dT (show nI 0 ≤ kd from q.1), dT q.2.1]; rfl
    rw [this] at c
    exact absurd c (by decide)
  · have q := b2_n0.mp c
    have hyes : 0 ≤ kd ∧ kd ≤ nI 3 ∧ n ≤ nI 8 := ⟨of_decide_eq_true (and3 q).1, of_decide_eq_true (and3 q).2, c2⟩
    refine ⟨fun c3 => S34 hyes (fun q => q.1 (Int32.le_antisymm hyes.2.1 c3)), fun c3 => ⟨fun c4 => S34 hyes (fun q => (i_ltn c4) q.2), fun c4 => ?_⟩⟩
    have h2 : kd ≠ nI 3 ∧ n < 0 := ⟨fun q => c3 (by rw [q]; exact Int32.le_refl _), i_nle c4⟩
    unfold aSheet nSheet
    rw [if_pos hyes, if_pos hyes, if_pos h2, if_pos h2]
    exact ⟨rfl, a0⟩
theorem c_those {k i n : Nat} {h : Hp} {s : Sta} {ft : Int32} (h1 : h.1 12 0 1 = nI n) (hn : n ≤ 8) (hs : h.1 40 i = mS s) : Ct alM mX12_those k [vR 12 0, vR 40 i, vI ft] h (Rd h (btF s ft n)) := by
  have L : ∀ t, t ≤ n → WP alM mX12_those k (Rd h (btF s ft n)) 5 [some (vR 12 0), some (vR 40 i), some (vI ft), some (vI (btF s ft t)), some (vI (nI t))] [] h := by
    refine loop_up n ?_ (fun t ht ih => ?_)
    · exact wp_at tX12_those [] 20 5 okM kX12_those ⟨fun _ => ⟨rfl, rfl⟩, fun c => absurd (by rw [h1]; exact nI_le (Nat.le_refl _) (by omega)) c⟩
    · have es : btF s ft (t + 1) = btF s ft t ||| (if s (32 + t) = ft then bit t else nI 0) := rfl
      rw [es, ← nI_add t 1] at ih
      have e32 : h.1 40 i (nI 32 + nI t).toNatClampNeg = s (32 + t) := by rw [ixC (by omega), hs, mS_lo (by omega)]
      refine wp_at tX12_those [(5, [true, true, true, true, true])] 40 5 okM kX12_those ⟨fun c => absurd c (by rw [h1]; exact nI_ge ht (by omega)), fun _ => ⟨ixN 47 (by omega), ?_⟩⟩
      rw [e32]
      refine ⟨fun c => ?_, fun c => ?_⟩
      · rw [if_neg c] at ih; exact ih
      · rw [if_pos (nn c)] at ih; exact ih
  refine ct_vc tX12_those [(5, [true, true, true, true, true])] 20 okM kX12_those rfl ?_
  exact L 0 (Nat.zero_le _)
theorem m_Count {B k : Nat} {h : Hp} {g : GS} {x : Int32} (a : MI B h g) (z : Sz g) : Ct alM mX12_count (k + 1) [vR 12 0, vI x] h (fun v h' => v = vI (aCount g x) ∧ MI B h' g) := by
  have a0 := a.fld (j := 10) (x := nI 0) (by decide)
  obtain ⟨h0, hh0⟩ : ∃ h0, sX h 12 0 10 (nI 0) = h0 := ⟨_, rfl⟩
  rw [hh0] at a0
  refine ct_vc tX12_count [(5, [true, true])] 30 okM kX12_count rfl ?_
  show WP alM mX12_count (k + 1) _ 5 [some (vR 12 0), some (vI x)] [] (sX h 12 0 10 (nI 0))
  rw [hh0]
  have a0' := a0
  obtain ⟨a1, a2, a3, a4, a5, a6, a7, a8, a9, a10⟩ := a0'
  have TH : ∀ q : Nat, q = 5 ∨ q = 6 ∨ q = 7 → x = nI q → WP alM mX12_count (k + 1) (fun v h' => v = vI (btF (gS g) (nI (q - 5)) (gN g)) ∧ MI B h' g) 107 [some (vR 12 0), some (vI x)] [] h0 := by
    intro q hq hx
    refine wp_at tX12_count [] 30 107 okM kX12_count ⟨_, ct_cv (c_those (ft := nI (q - 5)) a2.1 z.1 a1.1) (congrArg (fun y => [vR 12 0, vR 40 0, vI y]) (by rw [hx, pk_sub (by omega)])) rfl, ?_⟩
    rintro v h' ⟨rfl, rfl⟩
    exact ⟨rfl, a0⟩
  refine wp_at tX12_count [(107, [true, true])] 30 5 okM kX12_count ?_
  refine swP_of _ (fun q hq e => ?_) (fun hn => ?_)
  · simp only [prs, List.tail_cons, List.mem_cons, List.not_mem_nil, or_false] at hq
    unfold aCount
    rcases hq with rfl | rfl | rfl | rfl | rfl | rfl | rfl | rfl | rfl | rfl | rfl | rfl | rfl | rfl <;> dsimp only at e
    · rw [if_pos e]; exact ⟨congrArg vI a2.1, a0⟩
    · subst e; rw [if_neg (by decide), if_pos rfl]; exact ⟨congrArg vI a3.1, a0⟩
    · subst e; rw [if_neg (by decide), if_neg (by decide), if_pos rfl]; exact ⟨congrArg vI a1.2, a0⟩
    · subst e; rw [if_neg (by decide), if_neg (by decide), if_neg (by decide), if_pos rfl]
      refine ⟨ix1 47 (by omega), ?_, a0⟩
      rw [nI_clamp (by omega), a1.1]; rfl
    · subst e; rw [if_neg (by decide), if_neg (by decide), if_neg (by decide), if_neg (by decide), if_pos rfl]
      refine ⟨ix1 47 (by omega), ?_, a0⟩
      rw [nI_clamp (by omega), a1.1]; rfl
    · have := TH 5 (by omega) e
      subst e; rw [if_neg (by decide), if_neg (by decide), if_neg (by decide), if_neg (by decide), if_neg (by decide), if_pos rfl]
      exact this
    · have := TH 6 (by omega) e
      subst e; rw [if_neg (by decide), if_neg (by decide), if_neg (by decide), if_neg (by decide), if_neg (by decide), if_neg (by decide), if_pos rfl]
      exact this
    · have := TH 7 (by omega) e
      subst e; rw [if_neg (by decide), if_neg (by decide), if_neg (by decide), if_neg (by decide), if_neg (by decide), if_neg (by decide), if_neg (by decide), if_pos rfl]
      exact this
    · subst e; rw [if_neg (by decide), if_neg (by decide), if_neg (by decide), if_neg (by decide), if_neg (by decide), if_neg (by decide), if_neg (by decide), if_neg (by decide), if_pos rfl]
      refine ⟨ix1 47 (by omega), _, c_bitCount okM, ?_⟩
      rintro v h' ⟨rfl, rfl⟩
      refine ⟨?_, a0⟩
      rw [nI_clamp (by omega), a1.1]; rfl
    · subst e; rw [if_neg (by decide), if_neg (by decide), if_neg (by decide), if_neg (by decide), if_neg (by decide), if_neg (by decide), if_neg (by decide), if_neg (by decide), if_neg (by decide), if_pos rfl]; exact ⟨congrArg vI a9.1, a0⟩
    · subst e; rw [if_neg (by decide), if_neg (by decide), if_neg (by decide), if_neg (by decide), if_neg (by decide), if_neg (by decide), if_neg (by decide), if_neg (by decide), if_neg (by decide), if_neg (by decide), if_pos rfl]; exact ⟨congrArg vI a10.1, a0⟩
    · subst e; rw [if_neg (by decide), if_neg (by decide), if_neg (by decide), if_neg (by decide), if_neg (by decide), if_neg (by decide), if_neg (by decide), if_neg (by decide), if_neg (by decide), if_neg (by decide), if_neg (by decide), if_pos rfl]; exact ⟨congrArg vI a7.1, a0⟩
    · subst e; rw [if_neg (by decide), if_neg (by decide), if_neg (by decide), if_neg (by decide), if_neg (by decide), if_neg (by decide), if_neg (by decide), if_neg (by decide), if_neg (by decide), if_neg (by decide), if_neg (by decide), if_neg (by decide), if_pos rfl]; exact ⟨congrArg vI a5.1, a0⟩
    · subst e; rw [if_neg (by decide), if_neg (by decide), if_neg (by decide), if_neg (by decide), if_neg (by decide), if_neg (by decide), if_neg (by decide), if_neg (by decide), if_neg (by decide), if_neg (by decide), if_neg (by decide), if_neg (by decide), if_neg (by decide), if_pos rfl]; exact ⟨congrArg vI a4.1, a0⟩
  · refine ⟨?_, a0⟩
    unfold aCount
    rw [if_neg (hn (0, 76) (by decide)), if_neg (hn (1, 81) (by decide)), if_neg (hn (2, 86) (by decide)), if_neg (hn (3, 91) (by decide)), if_neg (hn (4, 99) (by decide)), if_neg (hn (5, 107) (by decide)), if_neg (hn (6, 107) (by decide)), if_neg (hn (7, 107) (by decide)), if_neg (hn (8, 119) (by decide)), if_neg (hn (9, 130) (by decide)), if_neg (hn (10, 135) (by decide)), if_neg (hn (11, 140) (by decide)), if_neg (hn (12, 145) (by decide)), if_neg (hn (13, 150) (by decide))]
/-! those that may be lost -/
theorem m_Fighter {B k : Nat} {h : Hp} {g : GS} {x w : Int32} (a : MI B h g) (z : Sz g) : Ct alM mX12_fighter (k + 2) [vR 12 0, vI x, vI w] h (fun v h' => MI B h' g ∧ ((okFi g x w = true ∧ v = vI (aFighter g x w) ∧ h'.1 12 0 10 = nI 0) ∨ (okFi g x w = false ∧ (∃ y, v = vI y) ∧ h'.1 12 0 10 = nI 1))) := by
  have hn := z.1
  have a0 := a.fld (j := 10) (x := nI 0) (by decide)
  have e10 : (sX h 12 0 10 (nI 0)).1 12 0 10 = nI 0 := by rw [rdX, if_pos (by simp)]
  obtain ⟨h0, hh0⟩ : ∃ h0, sX h 12 0 10 (nI 0) = h0 := ⟨_, rfl⟩
  rw [hh0] at a0 e10
  have NO : okFi g x w = false → WP alM mX12_fighter (k + 2) (fun v h' => MI B h' g ∧ ((okFi g x w = true ∧ v = vI (aFighter g x w) ∧ h'.1 12 0 10 = nI 0) ∨ (okFi g x w = false ∧ (∃ y, v = vI y) ∧ h'.1 12 0 10 = nI 1))) 23 [some (vR 12 0), none, none] [] h0 := by
    intro hno
    refine wp_at tX12_fighter [] 20 23 okM kX12_fighter ⟨_, c_lost, ?_⟩
    rintro v h' ⟨rfl, rfl⟩
    exact ⟨a0.fld (by decide), Or.inr ⟨hno, ⟨_, rfl⟩, by rw [rdX, if_pos (by simp)]⟩⟩
  refine ct_vc tX12_fighter [(5, [true, true, true])] 10 okM kX12_fighter rfl ?_
  show WP alM mX12_fighter (k + 2) _ 5 [some (vR 12 0), some (vI x), some (vI w)] [] (sX h 12 0 10 (nI 0))
  rw [hh0]
  refine wp_at tX12_fighter [(23, [true, false, false])] 60 5 okM kX12_fighter ⟨_, c_isMan a0.n1 hn, ?_⟩
  rintro v h' ⟨rfl, rfl⟩
  refine ⟨fun c => NO (by unfold okFi; rw [b2_0.mp c]; rfl), fun c => ⟨_, c_min, ?_⟩⟩
  rintro v h' ⟨rfl, rfl⟩
  refine ⟨fun c2 => ?_, fun c2 => NO (by unfold okFi; rw [b2_0.mp (nn c2)]; exact Bool.and_false _)⟩
  have q1 := b2_n0.mp c
  have q2 := b2_n0.mp c2
  have hok : okFi g x w = true := by unfold okFi; rw [q1, q2]; rfl
  obtain ⟨j, hj, rfl⟩ := hasN_get q1 (by omega)
  obtain ⟨t, -, ht, rfl⟩ := inB_get q2 (by omega) (by omega)
  have eA : aFighter g (nI j) (nI t) = if t < 4 then gR g t j else gS g (8 * (t - 4) + j) := by unfold aFighter; rw [nI_clamp (show j < 2 ^ 31 by omega), nI_clamp (show t < 2 ^ 31 by omega)]
  refine ⟨fun c3 => ?_, fun c3 => ?_⟩
  · have c4 : 4 ≤ t := (nI_leI (by omega) (by omega)).mp c3
    have ei : nI 8 * (nI t - nI 4) + nI j = nI (8 * (t - 4) + j) := by rw [pk_sub c4, nI_mul, nI_add]
    refine ⟨by rw [ei]; exact ix1 47 (by omega), a0, Or.inl ⟨hok, ?_, e10⟩⟩
    rw [ei, nI_clamp (by omega), a0.1.1, mS_lo (by omega), eA, if_neg (by omega)]
  · have c4 : t < 4 := Classical.byContradiction fun q => c3 (nI_le (by omega) (by omega))
    refine ⟨by rw [n4j]; exact ix1 32 (by omega), a0, Or.inl ⟨hok, ?_, e10⟩⟩
    rw [n4j, nI_clamp (by omega), a0.2.1.2 j hj t c4, eA, if_pos c4]
theorem m_Seat {B k : Nat} {h : Hp} {g : GS} {x w : Int32} (a : MI B h g) (z : Sz g) : Ct alM mX12_seat (k + 2) [vR 12 0, vI x, vI w] h (fun v h' => MI B h' g ∧ ((okSe g x w = true ∧ v = vI (aSeat g x w) ∧ h'.1 12 0 10 = nI 0) ∨ (okSe g x w = false ∧ (∃ y, v = vI y) ∧ h'.1 12 0 10 = nI 1))) := by
  have hn := z.2.1
  have a0 := a.fld (j := 10) (x := nI 0) (by decide)
  have e10 : (sX h 12 0 10 (nI 0)).1 12 0 10 = nI 0 := by rw [rdX, if_pos (by simp)]
  obtain ⟨h0, hh0⟩ : ∃ h0, sX h 12 0 10 (nI 0) = h0 := ⟨_, rfl⟩
  rw [hh0] at a0 e10
  have NO : okSe g x w = false → WP alM mX12_seat (k + 2) (fun v h' => MI B h' g ∧ ((okSe g x w = true ∧ v = vI (aSeat g x w) ∧ h'.1 12 0 10 = nI 0) ∨ (okSe g x w = false ∧ (∃ y, v = vI y) ∧ h'.1 12 0 10 = nI 1))) 41 [some (vR 12 0), none, none] [] h0 := by
    intro hno
    refine wp_at tX12_seat [] 20 41 okM kX12_seat ⟨_, c_lost, ?_⟩
    rintro v h' ⟨rfl, rfl⟩
    exact ⟨a0.fld (by decide), Or.inr ⟨hno, ⟨_, rfl⟩, by rw [rdX, if_pos (by simp)]⟩⟩
  refine ct_vc tX12_seat [(5, [true, true, true])] 10 okM kX12_seat rfl ?_
  show WP alM mX12_seat (k + 2) _ 5 [some (vR 12 0), some (vI x), some (vI w)] [] (sX h 12 0 10 (nI 0))
  rw [hh0]
  refine wp_at tX12_seat [(41, [true, false, false])] 60 5 okM kX12_seat ⟨_, c_min, ?_⟩
  rw [a0.2.2.1.1, inB_has hn]
  rintro v h' ⟨rfl, rfl⟩
  refine ⟨fun c => NO (by unfold okSe; rw [b2_0.mp c]; rfl), fun c => ⟨_, c_min, ?_⟩⟩
  rintro v h' ⟨rfl, rfl⟩
  refine ⟨fun c2 => NO (by unfold okSe; rw [b2_0.mp c2]; exact Bool.and_false _), fun c2 => ?_⟩
  have q1 := b2_n0.mp c
  have q2 := b2_n0.mp c2
  have hok : okSe g x w = true := by unfold okSe; rw [q1, q2]; rfl
  obtain ⟨j, hj, rfl⟩ := hasN_get q1 (by omega)
  obtain ⟨t, -, ht, rfl⟩ := inB_get q2 (by omega) (by omega)
  refine ⟨by rw [n3j]; exact ix1 24 (by omega), a0, Or.inl ⟨hok, ?_, e10⟩⟩
  unfold aSeat
  rw [n3j, nI_clamp (by omega), a0.2.2.1.2 j hj t (by omega), nI_clamp (by omega), nI_clamp (by omega)]
theorem m_Strength {B D k : Nat} {h : Hp} {g : GS} {x y : Int32} (a : MI B h g) (z : Sz g) (iv : Inv D g) : Ct alM mX12_strength (k + 311) [vR 12 0, vI x, vI y] h (fun v h' => MI B h' g ∧ ((okTw g x y = true ∧ v = vI (aStrength g x y) ∧ h'.1 12 0 10 = nI 0) ∨ (okTw g x y = false ∧ (∃ y, v = vI y) ∧ h'.1 12 0 10 = nI 1))) := by
  have hn := z.1
  have a0 := a.fld (j := 10) (x := nI 0) (by decide)
  have e10 : (sX h 12 0 10 (nI 0)).1 12 0 10 = nI 0 := by rw [rdX, if_pos (by simp)]
  obtain ⟨h0, hh0⟩ : ∃ h0, sX h 12 0 10 (nI 0) = h0 := ⟨_, rfl⟩
  rw [hh0] at a0 e10
  refine ct_vc tX12_strength [(5, [true, true, true])] 10 okM kX12_strength rfl ?_
  show WP alM mX12_strength (k + 311) _ 5 [some (vR 12 0), some (vI x), some (vI y)] [] (sX h 12 0 10 (nI 0))
  rw [hh0]
  refine wp_at tX12_strength [] 60 5 okM kX12_strength ⟨_, c_areTwo a0.n1 hn, ?_⟩
  rintro v h' ⟨rfl, rfl⟩
  refine ⟨fun c => ⟨_, c_lost, ?_⟩, fun c => ?_⟩
  · rintro v h' ⟨rfl, rfl⟩
    exact ⟨a0.fld (by decide), Or.inr ⟨b2_0.mp c, ⟨_, rfl⟩, by rw [rdX, if_pos (by simp)]⟩⟩
  · have hok : okTw g x y = true := b2_n0.mp c
    obtain ⟨q0, q3⟩ := and3 hok
    obtain ⟨q1, q2⟩ := and3 q0
    obtain ⟨i, hi, rfl⟩ := hasN_get q1 (by omega)
    obtain ⟨j, hj, rfl⟩ := hasN_get q2 (by omega)
    refine ⟨_, c_mstr (a0.ww z iv) a0.1.1 hi hj, ?_⟩
    rintro v h2 ⟨rfl, f2⟩
    refine ⟨a0.scr f2 (by simp [stS, scA]) (by simp [stI, scI]), Or.inl ⟨hok, ?_, ?_⟩⟩
    · unfold aStrength
      rw [nI_clamp (show i < 2 ^ 31 by omega), nI_clamp (show j < 2 ^ 31 by omega)]
    · rw [f2.2.2.2 10 (by simp [stI])]; exact e10
theorem m_Row {B k : Nat} {h : Hp} {g : GS} {x : Int32} (a : MI B h g) (z : Sz g) : Ct alM mX12_row (k + 2) [vR 12 0, vI x] h (fun v h' => MI B h' g ∧ ((okRo g x = true ∧ v = vL (aRow g x) ∧ h'.1 12 0 10 = nI 0) ∨ (okRo g x = false ∧ (∃ y, v = vL y) ∧ h'.1 12 0 10 = nI 1))) := by
  have hn := z.2.2.2.1
  have a0 := a.fld (j := 10) (x := nI 0) (by decide)
  have e10 : (sX h 12 0 10 (nI 0)).1 12 0 10 = nI 0 := by rw [rdX, if_pos (by simp)]
  obtain ⟨h0, hh0⟩ : ∃ h0, sX h 12 0 10 (nI 0) = h0 := ⟨_, rfl⟩
  rw [hh0] at a0 e10
  refine ct_vc tX12_row [(5, [true, true])] 10 okM kX12_row rfl ?_
  show WP alM mX12_row (k + 2) _ 5 [some (vR 12 0), some (vI x)] [] (sX h 12 0 10 (nI 0))
  rw [hh0]
  refine wp_at tX12_row [] 60 5 okM kX12_row ⟨_, c_min, ?_⟩
  rw [a0.2.2.2.2.1.1, inB_has hn]
  rintro v h' ⟨rfl, rfl⟩
  refine ⟨fun c => ⟨_, c_lost, ?_⟩, fun c => ?_⟩
  · rintro v h' ⟨rfl, rfl⟩
    exact ⟨a0.fld (by decide), Or.inr ⟨b2_0.mp c, ⟨_, rfl⟩, by rw [rdX, if_pos (by simp)]⟩⟩
  · have hok : okRo g x = true := b2_n0.mp c
    obtain ⟨j, hj, rfl⟩ := hasN_get hok (by omega)
    refine ⟨ix1 16 (by omega), a0, Or.inl ⟨hok, ?_, e10⟩⟩
    unfold aRow
    rw [nI_clamp (show j < 2 ^ 31 by omega), List.getD_eq_getElem?_getD, List.getElem?_eq_getElem hj]
    exact congrArg vL (a0.2.2.2.2.1.2 j _ (List.getElem?_eq_getElem hj))
theorem m_thrown {k : Nat} {h : Hp} : Ct alM mX12_thrown k [vR 12 0] h (Rd h (h.1 12 0 10)) := ct_vc tX12_thrown [] 20 okM kX12_thrown rfl ⟨rfl, rfl⟩
