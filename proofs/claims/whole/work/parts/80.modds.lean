/-! the reference: odds, till -/
theorem c_mpower {k n : Nat} {h : Hp} {v : Int64} (hn : n < 100) : Ct alM mX12_power k [vL v, vI (nI n)] h (fun x h' => x = vL (pwF v n) ∧ h' = h) := by
  have L : ∀ t, t ≤ n → WP alM mX12_power k (fun x h' => x = vL (pwF v n) ∧ h' = h) 5 [some (vL v), none, some (vI (nI n)), some (vL (pwF v t)), none, some (vI (nI t))] [] h := by
    refine loop_up n ?_ (fun t ht ih => ?_)
    · exact wp_at tX12_power [] 20 5 okM kX12_power ⟨fun _ => ⟨rfl, rfl⟩, fun c => absurd (nI_le (Nat.le_refl n) (by omega)) c⟩
    · rw [pwF, ← nI_add t 1] at ih
      exact wp_at tX12_power [(5, [true, false, true, true, false, true])] 30 5 okM kX12_power ⟨fun c => absurd c (nI_ge ht (by omega)), fun _ => ih⟩
  refine ct_vc tX12_power [(5, [true, false, true, true, false, true])] 30 okM kX12_power rfl ?_
  exact L 0 (Nat.zero_le _)
theorem c_choose {k m : Nat} {h : Hp} {n : Int32} (hm : m < 100) : Ct alM mX12_choose k [vI n, vI (nI m)] h (fun x h' => x = vL (wyF n m) ∧ h' = h) := by
  have L : ∀ t, t ≤ m → WP alM mX12_choose k (fun x h' => x = vL (wyF n m) ∧ h' = h) 5 [some (vI n), some (vI (nI m)), some (vL (wyF n t)), none, some (vI (nI t))] [] h := by
    refine loop_up m ?_ (fun t ht ih => ?_)
    · exact wp_at tX12_choose [] 20 5 okM kX12_choose ⟨fun _ => ⟨rfl, rfl⟩, fun c => absurd (nI_le (Nat.le_refl m) (by omega)) c⟩
    · rw [wyF] at ih
      have h0 := i64_n0 t (by omega)
      rw [← nI_add t 1] at ih h0
      exact wp_at tX12_choose [(5, [true, true, true, false, true])] 30 5 okM kX12_choose ⟨fun c => absurd c (nI_ge ht (by omega)), fun _ => ⟨h0, ih⟩⟩
  refine ct_vc tX12_choose [(5, [true, true, true, false, true])] 30 okM kX12_choose rfl ?_
  exact L 0 (Nat.zero_le _)
theorem od_tab : ∀ n, n < 11 → ∀ k, k < 11 → ∀ p, p < 11 → ¬ odL n k p < 0 ∧ odL n k p < lN 1099511627776 := by decide +kernel
theorem ti_tab : ∀ n, n < 7 → ∀ k, k < 7 → ∀ p, p < 11 → ¬ tiL n k p < 0 ∧ tiL n k p < lN 1099511627776 := by decide +kernel
theorem pw_tab : ∀ n, n < 12 → pwF (lN 10) n = lN (10 ^ n) ∧ 0 < 10 ^ n ∧ 10 ^ n < 2 ^ 40 := by decide +kernel
theorem lt_40 {x : Int64} (h1 : ¬ x < 0) (h2 : x < lN 1099511627776) : ∃ m, m < 2 ^ 40 ∧ x = lN m := by
  obtain ⟨m, hm, rfl⟩ := pk_lOf h1
  exact ⟨m, (pk_lLT hm (by decide)).mp h2, rfl⟩
theorem m_Odds {B K : Nat} {h : Hp} {g : GS} {n k p : Int32} (a : MI B h g) : Ct alM mX12_odds (K + 102) [vR 12 0, vI n, vI k, vI p] h (fun x h' => x = vI (aOdds n k p) ∧ MI B h' (nOdds g n k p)) := by
  have a0 := a.fld (j := 10) (x := nI 0) (by decide)
  obtain ⟨h0, hh0⟩ : ∃ h0, sX h 12 0 10 (nI 0) = h0 := ⟨_, rfl⟩
  rw [hh0] at a0
  have NO : ¬ okO n k p = true → WP alM mX12_odds (K + 102) (fun x h' => x = vI (aOdds n k p) ∧ MI B h' (nOdds g n k p)) 35 [none, none, none, none, none, none, none] [] h0 := by
    intro hno
    refine wp_at tX12_odds [] 10 35 okM kX12_odds ?_
    unfold aOdds nOdds
    rw [if_neg hno, if_neg hno]
    exact ⟨rfl, a0⟩
  refine ct_vc tX12_odds [(5, [true, true, true, true, false, false, false])] 10 okM kX12_odds rfl ?_
  show WP alM mX12_odds (K + 102) _ 5 [some (vR 12 0), some (vI n), some (vI k), some (vI p), none, none, none] [] (sX h 12 0 10 (nI 0))
  rw [hh0]
  refine wp_at tX12_odds [(35, [false, false, false, false, false, false, false]), (37, [true, true, true, true, false, false, false])] 60 5 okM kX12_odds ⟨_, c_min, ?_⟩
  rintro v h1 ⟨rfl, rfl⟩
  refine ⟨fun c => NO (fun w => by rw [(and3 (and3 w).1).1] at c; exact absurd c (by decide)), fun c => ⟨_, c_min, ?_⟩⟩
  rintro v h1 ⟨rfl, rfl⟩
  refine ⟨fun c2 => NO (fun w => by rw [(and3 (and3 w).1).2] at c2; exact absurd c2 (by decide)), fun c2 => ⟨_, c_min, ?_⟩⟩
  rintro v h1 ⟨rfl, rfl⟩
  refine ⟨fun c3 => ?_, fun c3 => NO (fun w => by rw [(and3 w).2] at c3; exact absurd (nn c3) (by decide))⟩
  have q1 := b2_n0.mp c
  have q2 := b2_n0.mp c2
  have q3 := b2_n0.mp c3
  have hok : okO n k p = true := by unfold okO; rw [q1, q2, q3]; rfl
  unfold aOdds nOdds
  rw [if_pos hok, if_pos hok]
  obtain ⟨n', hn1, hn2, rfl⟩ := inB_get q1 (by omega) (by omega)
  obtain ⟨k', -, hk2, rfl⟩ := inB_get q2 (by omega) (by omega)
  obtain ⟨p', -, hp2, rfl⟩ := inB_get q3 (by omega) (by omega)
  rw [nI_clamp (show n' < 2 ^ 31 by omega), nI_clamp (show k' < 2 ^ 31 by omega), nI_clamp (show p' < 2 ^ 31 by omega)]
  have FIN : ∀ w, n' < w → w < 100 → WP alM mX12_odds (K + 102) (fun x h' => x = vI (nI 0) ∧ MI B h' (uL g (frL (odL n' k' p') (pwF (lN 10) n')))) 43 [some (vR 12 0), some (vI (nI n')), some (vI (nI k')), some (vI (nI p')), some (vL (odL n' k' p')), none, some (vI (nI w))] [] h1 := by
    intro w hw hw2
    obtain ⟨t1, t2⟩ := od_tab n' (by omega) k' (by omega) p' (by omega)
    obtain ⟨m, hm, em⟩ := lt_40 t1 t2
    obtain ⟨p1, p2, p3⟩ := pw_tab n' (by omega)
    refine wp_at tX12_odds [] 40 43 okM kX12_odds ⟨fun _ => ⟨_, c_mpower (by omega), ?_⟩, fun c => absurd (nI_lt hw (by omega)) c⟩
    rintro v h2 ⟨rfl, rfl⟩
    rw [em, p1]
    refine ⟨_, c_tellPart a0 hm p3 p2, ?_⟩
    rintro v h3 a3
    exact ⟨rfl, a3⟩
  have L : k' ≤ n' → ∀ t, t ≤ n' + 1 - k' → WP alM mX12_odds (K + 102) (fun x h' => x = vI (nI 0) ∧ MI B h' (uL g (frL (odL n' k' p') (pwF (lN 10) n')))) 43 [some (vR 12 0), some (vI (nI n')), some (vI (nI k')), some (vI (nI p')), some (vL (smL (fun i => odT n' p' (k' + i)) t)), none, some (vI (nI (k' + t)))] [] h1 := by
    intro hkn
    refine loop_up (n' + 1 - k') (FIN _ (by omega) (by omega)) (fun t ht ih => ?_)
    rw [smL, ← Nat.add_assoc, ← nI_add (k' + t) 1] at ih
    refine wp_at tX12_odds [(43, [true, true, true, true, true, false, true])] 60 43 okM kX12_odds ⟨fun c => absurd c (nI_nlt (by omega) (by omega)), fun _ => ⟨_, c_choose (by omega), ?_⟩⟩
    rintro v h1 ⟨rfl, rfl⟩
    refine ⟨_, c_mpower (by omega), ?_⟩
    rintro v h1 ⟨rfl, rfl⟩
    refine ⟨_, ct_cv (c_mpower (n := n' - (k' + t)) (by omega)) (congrArg (fun x => [vL (nI 10 - nI p').toInt64, vI x]) (pk_sub (by omega))) rfl, ?_⟩
    rintro v h1 ⟨rfl, rfl⟩
    exact ih
  refine wp_at tX12_odds [(43, [true, true, true, true, true, false, true])] 20 37 okM kX12_odds ?_
  rcases Nat.lt_or_ge n' k' with c7 | c7
  · have e0 : odL n' k' p' = lN 0 := by unfold odL; rw [show n' + 1 - k' = 0 by omega]; rfl
    have := FIN k' c7 (by omega)
    rw [e0] at this ⊢
    exact this
  · exact L c7 0 (Nat.zero_le _)
theorem m_Till {B K : Nat} {h : Hp} {g : GS} {n k p : Int32} (a : MI B h g) : Ct alM mX12_till (K + 102) [vR 12 0, vI n, vI k, vI p] h (fun x h' => x = vI (aTill n k p) ∧ MI B h' (nTill g n k p)) := by
  have a0 := a.fld (j := 10) (x := nI 0) (by decide)
  obtain ⟨h0, hh0⟩ : ∃ h0, sX h 12 0 10 (nI 0) = h0 := ⟨_, rfl⟩
  rw [hh0] at a0
  have NO : ¬ okT n k p = true → WP alM mX12_till (K + 102) (fun x h' => x = vI (aTill n k p) ∧ MI B h' (nTill g n k p)) 35 [none, none, none, none, none, none, none] [] h0 := by
    intro hno
    refine wp_at tX12_till [] 10 35 okM kX12_till ?_
    unfold aTill nTill
    rw [if_neg hno, if_neg hno]
    exact ⟨rfl, a0⟩
  refine ct_vc tX12_till [(5, [true, true, true, true, false, false, false])] 10 okM kX12_till rfl ?_
  show WP alM mX12_till (K + 102) _ 5 [some (vR 12 0), some (vI n), some (vI k), some (vI p), none, none, none] [] (sX h 12 0 10 (nI 0))
  rw [hh0]
  refine wp_at tX12_till [(35, [false, false, false, false, false, false, false]), (37, [true, true, true, true, false, false, false])] 60 5 okM kX12_till ⟨_, c_min, ?_⟩
  rintro v h1 ⟨rfl, rfl⟩
  refine ⟨fun c => NO (fun w => by rw [(and3 (and3 w).1).1] at c; exact absurd c (by decide)), fun c => ⟨_, c_min, ?_⟩⟩
  rintro v h1 ⟨rfl, rfl⟩
  refine ⟨fun c2 => NO (fun w => by rw [(and3 (and3 w).1).2] at c2; exact absurd c2 (by decide)), fun c2 => ⟨_, c_min, ?_⟩⟩
  rintro v h1 ⟨rfl, rfl⟩
  refine ⟨fun c3 => ?_, fun c3 => NO (fun w => by rw [(and3 w).2] at c3; exact absurd (nn c3) (by decide))⟩
  have q1 := b2_n0.mp c
  have q2 := b2_n0.mp c2
  have q3 := b2_n0.mp c3
  have hok : okT n k p = true := by unfold okT; rw [q1, q2, q3]; rfl
  unfold aTill nTill
  rw [if_pos hok, if_pos hok]
  obtain ⟨n', hn1, hn2, rfl⟩ := inB_get q1 (by omega) (by omega)
  obtain ⟨k', hk1, hk2, rfl⟩ := inB_get q2 (by omega) (by omega)
  obtain ⟨p', -, hp2, rfl⟩ := inB_get q3 (by omega) (by omega)
  rw [nI_clamp (show n' < 2 ^ 31 by omega), nI_clamp (show k' < 2 ^ 31 by omega), nI_clamp (show p' < 2 ^ 31 by omega)]
  have L : ∀ t, t ≤ k' → WP alM mX12_till (K + 102) (fun x h' => x = vI (nI 0) ∧ MI B h' (uL g (frL (tiL n' k' p') (pwF (lN 10) (n' + k' - 1))))) 43 [some (vR 12 0), some (vI (nI n')), some (vI (nI k')), some (vI (nI p')), some (vL (smL (tiT n' k' p') t)), none, some (vI (nI t))] [] h1 := by
    refine loop_up k' ?_ (fun t ht ih => ?_)
    · obtain ⟨t1, t2⟩ := ti_tab n' (by omega) k' (by omega) p' (by omega)
      obtain ⟨m, hm, em⟩ := lt_40 t1 t2
      obtain ⟨p1, p2, p3⟩ := pw_tab (n' + k' - 1) (by omega)
      refine wp_at tX12_till [] 40 43 okM kX12_till ⟨fun _ => ⟨_, ct_cv (c_mpower (n := n' + k' - 1) (by omega)) (congrArg (fun x => [vL (lN 10), vI x]) (by rw [nI_add, pk_sub (by omega)])) rfl, ?_⟩, fun c => absurd (nI_le (Nat.le_refl _) (by omega)) c⟩
      rintro v h2 ⟨rfl, rfl⟩
      have em' : smL (tiT n' k' p') k' = lN m := em
      have em2 : tiL n' k' p' = lN m := em
      rw [em', em2, p1]
      refine ⟨_, c_tellPart a0 hm p3 p2, ?_⟩
      rintro v h3 a3
      exact ⟨rfl, a3⟩
    · rw [smL, ← nI_add t 1] at ih
      refine wp_at tX12_till [(43, [true, true, true, true, true, false, true])] 80 43 okM kX12_till ⟨fun c => absurd c (nI_ge ht (by omega)), fun _ => ⟨_, ct_cv (c_choose (n := nI (n' - 1 + t)) (m := t) (by omega)) (congrArg (fun x => [vI x, vI (nI t)]) (by rw [pk_sub (by omega), nI_add])) rfl, ?_⟩⟩
      rintro v h1 ⟨rfl, rfl⟩
      refine ⟨_, c_mpower (by omega), ?_⟩
      rintro v h1 ⟨rfl, rfl⟩
      refine ⟨_, c_mpower (by omega), ?_⟩
      rintro v h1 ⟨rfl, rfl⟩
      refine ⟨_, ct_cv (c_mpower (n := k' - 1 - t) (by omega)) (congrArg (fun x => [vL (lN 10), vI x]) (by rw [pk_sub (by omega), pk_sub (by omega)])) rfl, ?_⟩
      rintro v h1 ⟨rfl, rfl⟩
      exact ih
  refine wp_at tX12_till [(43, [true, true, true, true, true, false, true])] 20 37 okM kX12_till ?_
  exact L 0 (Nat.zero_le _)
