/-! the class's calls: texts, settings, doings -/
def aSign (g : GS) : Int32 := if gTn g + 4 ≤ 80 then nI (gTn g + 4) else -(nI 1)
def nSign (g : GS) (v : Int32) : GS := if gTn g + 4 ≤ 80 then uT g (gTn g + 4, appF (gT g) (gTn g) v 4) else g
theorem c_Sign {k : Nat} {h : Hp} {g : GS} {v : Int32} (a : CI h g) (z : Sz g) : Ct alC mX11_sign (k + 1) [vR 11 0, vI v] h (fun x h' => x = vI (aSign g) ∧ CI h' (nSign g v)) := by
  refine ct_vc tX11_sign [] 30 okC kX11_sign rfl ?_
  refine ⟨_, c_append a.2.2.2.1.1 z.2.2.1, ?_⟩
  rintro x h' ⟨rfl, rfl⟩
  unfold aSign nSign
  rw [a.2.2.2.1.2]
  refine ⟨fun c => ?_, fun c => ?_⟩
  · have c' := of_decide_eq_false (b2_0.mp c)
    rw [if_neg c', if_neg c', if_neg c']
    exact ⟨rfl, a⟩
  · have c' := of_decide_eq_true (b2_n0.mp c)
    rw [if_pos c', if_pos c', if_pos c']
    refine ⟨?_, a.text (Fr.sX (Fr.sV Fr.rf (by simp)) (by simp)) ?_ ?_⟩
    · show vI ((sX _ 9 0 1 (nI (gTn g + 4))).1 9 0 1) = _
      rw [rdX, if_pos (by simp)]
    · rw [rdX, if_pos (by simp)]
    · rw [sX_row, if_neg (by simp), sV_same]
def aEnd (g : GS) (x : Int32) : Int32 := b2 (cutB x (nI (gTn g)))
def nEnd (g : GS) (x : Int32) : GS := if cutB x (nI (gTn g)) = true then uT g (x.toNatClampNeg, gT g) else g
theorem cutB_get {x : Int32} {n : Nat} (h : cutB x (nI n) = true) (hn : n ≤ 80) : ∃ j, j ≤ n ∧ x = nI j := by
  unfold cutB at h
  obtain ⟨h1, h2⟩ := and3 h
  have h3 : ¬ x < 0 := by simpa using h1
  obtain ⟨j, hj, rfl⟩ := nI_of h3
  exact ⟨j, (nI_leI hj (by omega)).mp (of_decide_eq_true h2), rfl⟩
theorem c_End {k : Nat} {h : Hp} {g : GS} {x : Int32} (a : CI h g) (z : Sz g) : Ct alC mX11_end (k + 1) [vR 11 0, vI x] h (fun v h' => v = vI (aEnd g x) ∧ CI h' (nEnd g x)) := by
  refine ct_vc tX11_end [] 30 okC kX11_end rfl ?_
  refine ⟨_, c_tcut, ?_⟩
  rintro v h' ⟨rfl, rfl⟩
  rw [a.2.2.2.1.1]
  refine ⟨b2_01 _, rfl, ?_⟩
  unfold nEnd
  split
  next c =>
    obtain ⟨j, hj, rfl⟩ := cutB_get c z.2.2.1
    have hz := z.2.2.1
    rw [nI_clamp (by omega)]
    refine a.text (Fr.sX Fr.rf (by simp)) ?_ ?_
    · rw [rdX, if_pos (by simp)]
    · rw [sX_row, if_neg (by simp)]; exact a.2.2.2.1.2
  next c => exact a
theorem c_isOwner {k : Nat} {h : Hp} {x : Int32} : Ct alC mX11_isOwner k [vI x] h (Rd h (b2 (hasN x 4))) := by
  refine ct_vc tX11_isOwner [] 30 okC kX11_isOwner rfl ?_
  unfold hasN
  refine ⟨fun c => ⟨Or.inl rfl, bF ?_, rfl⟩, fun c => ⟨fun c2 => ⟨Or.inl rfl, bF ?_, rfl⟩, fun c2 => ⟨Or.inr rfl, bT ?_, rfl⟩⟩⟩
  · rw [dF (i_len c)]; rfl
  · rw [dF (i_ltn c2)]; exact Bool.and_false _
  · rw [dT (i_nlt c), dT (i_nle c2)]; rfl
def aPurse (g : GS) (x : Int32) : Int32 := if hasN x 4 = true then gS g (40 + x.toNatClampNeg) else -(nI 1)
theorem c_Purse {k : Nat} {h : Hp} {g : GS} {x : Int32} (a : CI h g) : Ct alC mX11_purse (k + 1) [vR 11 0, vI x] h (Rd h (aPurse g x)) := by
  refine ct_vc tX11_purse [] 30 okC kX11_purse rfl ?_
  refine ⟨_, c_isOwner, ?_⟩
  rintro v h' ⟨rfl, rfl⟩
  unfold aPurse
  refine ⟨fun c => ⟨?_, rfl⟩, fun c => ?_⟩
  · rw [if_neg (by rw [b2_0.mp c]; decide)]
  · have c' := b2_n0.mp c
    obtain ⟨j, hj, rfl⟩ := hasN_get c' (by decide)
    rw [if_pos c', nI_clamp (by omega), ← a.1.1]
    refine ⟨ixN 47 (by omega), ?_, rfl⟩
    rw [ixC (by omega)]
def aSet (g : GS) (w v : Int32) : Int32 := if w = nI 0 ∧ nI 1 ≤ v ∧ v ≤ nI 9 then gW g else if w = nI 1 ∧ nI 0 ≤ v ∧ v ≤ nI 9999 then gS g 45 else -(nI 1)
def nSet (g : GS) (w v : Int32) : GS := if w = nI 0 ∧ nI 1 ≤ v ∧ v ≤ nI 9 then uW g v else if w = nI 1 ∧ nI 0 ≤ v ∧ v ≤ nI 9999 then uS g (upd (gS g) 45 v) else g
theorem c_Set {k : Nat} {h : Hp} {g : GS} {w v : Int32} (a : CI h g) : Ct alC mX11_set (k + 1) [vR 11 0, vI w, vI v] h (fun x h' => x = vI (aSet g w v) ∧ CI h' (nSet g w v)) := by
  have E : ¬ (w = nI 0 ∧ nI 1 ≤ v ∧ v ≤ nI 9) → WP alC mX11_set (k + 1) (fun x h' => x = vI (aSet g w v) ∧ CI h' (nSet g w v)) 33 [some (vR 11 0), some (vI w), some (vI v), none] [] h := by
    intro hno
    have F : ¬ (w = nI 1 ∧ nI 0 ≤ v ∧ v ≤ nI 9999) → vI (-(nI 1)) = vI (aSet g w v) ∧ CI h (nSet g w v) := by
      intro h2
      unfold aSet nSet
      rw [if_neg hno, if_neg h2, if_neg hno, if_neg h2]
      exact ⟨rfl, a⟩
    refine wp_at tX11_set [] 40 33 okC kX11_set ⟨fun c => F (fun z => c z.1), fun c => ⟨fun c2 => F (fun z => (i_len c2) z.2.1), fun c2 => ⟨fun c3 => F (fun z => (i_len c3) z.2.2), fun c3 => ⟨_, c_means, ?_⟩⟩⟩⟩
    rintro x h' ⟨rfl, rfl⟩
    refine ⟨ix1 47 (by omega), ?_⟩
    rw [nI_clamp (by omega)]
    have hall : w = nI 1 ∧ nI 0 ≤ v ∧ v ≤ nI 9999 := ⟨nn c, i_nlt c2, i_nlt c3⟩
    unfold aSet nSet
    rw [if_neg hno, if_pos hall, if_neg hno, if_pos hall]
    refine ⟨by rw [a.1.1], ?_⟩
    rw [sX_eq, a.1.1]
    exact a.now
  refine ct_vc tX11_set [(33, [true, true, true, false])] 40 okC kX11_set rfl ?_
  refine ⟨fun c => E (fun z => c z.1), fun c => ⟨fun c2 => E (fun z => (i_len c2) z.2.1), fun c2 => ⟨fun c3 => E (fun z => (i_len c3) z.2.2), fun c3 => ?_⟩⟩⟩
  have hall : w = nI 0 ∧ nI 1 ≤ v ∧ v ≤ nI 9 := ⟨nn c, i_nlt c2, i_nlt c3⟩
  unfold aSet nSet
  rw [if_pos hall, if_pos hall]
  exact ⟨by rw [← a.1.2], a.swo⟩
/-- an entry of a SHEET -/
def shE (kind e : Int32) : Int32 := clampN (nI 0) (nI 99) (if kind = nI 0 then e.toInt8.toInt32 else if kind = nI 1 then e.toInt16.toInt32 else e)
theorem c_sheetEntry {k : Nat} {h : Hp} {kd e : Int32} : Ct alC mX11_sheetEntry (k + 1) [vI kd, vI e] h (Rd h (shE kd e)) := by
  refine ct_vc tX11_sheetEntry [] 40 okC kX11_sheetEntry rfl ?_
  unfold shE
  refine ⟨fun c => ⟨fun c2 => ⟨?_, rfl⟩, fun c2 => ⟨?_, rfl⟩⟩, fun c => ⟨?_, rfl⟩⟩
  · rw [if_neg (show ¬ kd = nI 0 from c), if_neg c2]; rfl
  · rw [if_neg (show ¬ kd = nI 0 from c), if_pos (nn c2)]; rfl
  · rw [if_pos (show kd = nI 0 from nn c)]; rfl
def shV (kd n f st : Int32) (i : Nat) : Int32 := if kd = nI 3 ∨ n ≤ nI i then nI 0 else shE kd (f + nI i * st)
def shS (s : Sta) (kd n f st : Int32) : Nat → Sta
  | 0 => s
  | t + 1 => upd (shS s kd n f st t) t (shV kd n f st t)
def shX (kd n : Int32) : Prop := 0 ≤ kd ∧ kd ≤ nI 3 ∧ n ≤ nI 8
def aSheet (g : GS) (kd n f st : Int32) : Int32 := if 0 ≤ kd ∧ kd ≤ nI 3 ∧ n ≤ nI 8 then (if kd ≠ nI 3 ∧ n < 0 then -(nI 2) else if kd = nI 3 then -(nI 3) else smF (shV kd n f st) (gN g)) else -(nI 1)
def nSheet (g : GS) (kd n f st : Int32) : GS := if 0 ≤ kd ∧ kd ≤ nI 3 ∧ n ≤ nI 8 then (if kd ≠ nI 3 ∧ n < 0 then g else uS g (shS (gS g) kd n f st (gN g))) else g
theorem c_Sheet {k : Nat} {h : Hp} {g : GS} {kd n f st : Int32} (a : CI h g) (z : Sz g) : Ct alC mX11_sheet (k + 2) [vR 11 0, vI kd, vI n, vI f, vI st] h (fun x h' => x = vI (aSheet g kd n f st) ∧ CI h' (nSheet g kd n f st)) := by
  have hn8 := z.1
  have E : ¬ (0 ≤ kd ∧ kd ≤ nI 3 ∧ n ≤ nI 8) → WP alC mX11_sheet (k + 2) (fun x h' => x = vI (aSheet g kd n f st) ∧ CI h' (nSheet g kd n f st)) 15 [none, none, none, none, none, none, none, none, none] [] h := by
    intro hno
    refine wp_at tX11_sheet [] 10 15 okC kX11_sheet ?_
    unfold aSheet nSheet
    rw [if_neg hno, if_neg hno]
    exact ⟨rfl, a⟩
  have L : (0 ≤ kd ∧ kd ≤ nI 3 ∧ n ≤ nI 8) → ¬ (kd ≠ nI 3 ∧ n < 0) → ∀ t, t ≤ gN g → WP alC mX11_sheet (k + 2) (fun x h' => x = vI (aSheet g kd n f st) ∧ CI h' (nSheet g kd n f st)) 47 [some (vR 11 0), some (vI kd), some (vI n), some (vI f), some (vI st), some (vI (b2 (decide (kd = nI 3)))), some (vI (smF (shV kd n f st) t)), some (vI (nI t)), none] [] (sV h 33 0 (shS (gS g) kd n f st t)) := by
    intro hyes h2
    have hcv : ∀ s, (sV h 33 0 s).1 3 0 3 = nI (gN g) := fun s => by rw [rdV, if_neg (by simp)]; exact a.2.1.2.1
    refine loop_up (gN g) ?_ (fun t ht ih => ?_)
    · refine wp_at tX11_sheet [] 30 47 okC kX11_sheet ⟨fun _ => ?_, fun c => absurd (by rw [hcv]; exact nI_le (Nat.le_refl _) (by omega)) c⟩
      unfold aSheet nSheet
      rw [if_pos hyes, if_pos hyes, if_neg h2, if_neg h2]
      refine ⟨fun c => ⟨?_, a.now⟩, fun c => ⟨?_, a.now⟩⟩
      · rw [if_neg (of_decide_eq_false (b2_0.mp c))]
      · rw [if_pos (of_decide_eq_true (b2_n0.mp c))]
    · rw [smF, shS, ← nI_add t 1] at ih
      have G : ∀ x, shV kd n f st t = x → WP alC mX11_sheet (k + 2) (fun x h' => x = vI (aSheet g kd n f st) ∧ CI h' (nSheet g kd n f st)) 85 [some (vR 11 0), some (vI kd), some (vI n), some (vI f), some (vI st), some (vI (b2 (decide (kd = nI 3)))), some (vI (smF (shV kd n f st) t)), some (vI (nI t)), none] [vI x] (sV h 33 0 (shS (gS g) kd n f st t)) := by
        intro x hx
        refine wp_at tX11_sheet [(47, [true, true, true, true, true, true, true, true, false])] 30 85 okC kX11_sheet ⟨ixN 47 (by omega), ?_⟩
        rw [ixC (by omega), Nat.zero_add, sV_sX]
        rw [hx] at ih
        exact ih
      refine wp_at tX11_sheet [(85, [true, true, true, true, true, true, true, true, false])] 40 47 okC kX11_sheet ⟨fun c => absurd c (by rw [hcv]; exact nI_ge ht (by omega)), fun _ => ⟨fun c => G _ ?_, fun c => ⟨fun c2 => ⟨_, c_sheetEntry, ?_⟩, fun c2 => G _ ?_⟩⟩⟩
      · unfold shV; rw [if_pos (Or.inl (of_decide_eq_true (b2_n0.mp c)))]
      · rintro v h' ⟨rfl, rfl⟩
        refine G _ ?_
        unfold shV
        rw [if_neg (fun z => z.elim (of_decide_eq_false (b2_0.mp (nn c))) (i_len c2))]
      · unfold shV; rw [if_pos (Or.inr (i_nlt c2))]
  have M : (0 ≤ kd ∧ kd ≤ nI 3 ∧ n ≤ nI 8) → WP alC mX11_sheet (k + 2) (fun x h' => x = vI (aSheet g kd n f st) ∧ CI h' (nSheet g kd n f st)) 27 [some (vR 11 0), some (vI kd), some (vI n), some (vI f), some (vI st), none, none, none, none] [vI (b2 (decide (kd = nI 3)))] h := by
    intro hyes
    refine wp_at tX11_sheet [(41, [true, true, true, true, true, true, false, false, false])] 30 27 okC kX11_sheet ?_
    have LL : ¬ (kd ≠ nI 3 ∧ n < 0) → WP alC mX11_sheet (k + 2) (fun x h' => x = vI (aSheet g kd n f st) ∧ CI h' (nSheet g kd n f st)) 41 [some (vR 11 0), some (vI kd), some (vI n), some (vI f), some (vI st), some (vI (b2 (decide (kd = nI 3)))), none, none, none] [] h := by
      intro h2
      have := L hyes h2 0 (Nat.zero_le _)
      rw [shS, ← a.1.1, sV_id] at this
      exact wp_at tX11_sheet [(47, [true, true, true, true, true, true, true, true, false])] 10 41 okC kX11_sheet this
    refine ⟨fun c => LL (fun z => z.1 (of_decide_eq_true (b2_n0.mp c))), fun c => ⟨fun c2 => LL (fun z => (i_ltn c2) z.2), fun c2 => ?_⟩⟩
    unfold aSheet nSheet
    have h2 : kd ≠ nI 3 ∧ n < 0 := ⟨of_decide_eq_false (b2_0.mp (nn c)), i_nle c2⟩
    rw [if_pos hyes, if_pos hyes, if_pos h2, if_pos h2]
    exact ⟨rfl, a⟩
  refine ct_vc tX11_sheet [(15, [false, false, false, false, false, false, false, false, false]), (27, [true, true, true, true, true, false, false, false, false])] 30 okC kX11_sheet rfl ?_
  refine ⟨fun c => E (fun z => (i_len c) z.1), fun c => ⟨fun c2 => E (fun z => (i_len c2) z.2.1), fun c2 => ⟨fun c3 => ?_, fun c3 => E (fun z => c3 z.2.2)⟩⟩⟩
  have hyes : 0 ≤ kd ∧ kd ≤ nI 3 ∧ n ≤ nI 8 := ⟨i_nlt c, i_nlt c2, c3⟩
  have := M hyes
  refine ⟨fun c4 => ?_, fun c4 => ?_⟩
  · rw [dF c4] at this; exact this
  · rw [dT (nn c4)] at this; exact this
