/-! what every call keeps: more -/
theorem ok_End {D : Nat} {g : GS} {x : Int32} (o : Ok D g) : Ok D (nEnd g x) := by
  unfold nEnd
  split
  next c =>
    obtain ⟨h1, h2⟩ := and3 c
    have h1 : ¬ x < 0 := by simpa using h1
    have h2 := of_decide_eq_true h2
    obtain ⟨v, hv, rfl⟩ := nI_of h1
    have := o.1.2.2.1
    have := (nI_leI hv (by omega)).mp h2
    rw [nI_clamp hv]
    exact o.t (by show v ≤ 80; omega)
  next => exact o
theorem ok_Undo {D : Nat} {g : GS} (o : Ok D g) : Ok D (nUndo g) := by
  unfold nUndo
  cases hl : (gP g).getLast? with
  | none => exact o
  | some s =>
    have hs : s ∈ gP g := List.mem_of_getLast? hl
    have o2 : Ok D (uS g s) := o.s (o.2.2.2.2.1 s hs)
    refine ⟨o2.1.u (by rw [List.length_dropLast]; have := o.1.2.2.2.2.1; omega), o2.2.1, o2.2.2.1, o2.2.2.2.1, fun t ht => o.2.2.2.2.1 t ((List.dropLast_sublist (gP g)).subset ht), o2.2.2.2.2.2⟩
theorem ok_Keep {D : Nat} {g : GS} {x : Int32} (o : Ok D g) : Ok D (nKeep g x) := by
  unfold nKeep
  split
  next c =>
    refine ⟨o.1, o.2.1, o.2.2.1, o.2.2.2.1, o.2.2.2.2.1, fun i s hs => ?_, o.2.2.2.2.2.2⟩
    have hs' : (if i = x.toNatClampNeg then some (gS g) else gK g i) = some s := hs
    split at hs'
    · cases hs'; exact o.2.2.2.1
    · exact o.2.2.2.2.2.1 i s hs'
  next => exact o
theorem ok_Again {D : Nat} {g : GS} {x : Int32} (o : Ok D g) : Ok D (nAgain g x) := by
  unfold nAgain
  split
  next c =>
    cases hk : gK g x.toNatClampNeg with
    | none => exact o
    | some s =>
      have o2 : Ok D (uS g s) := o.s (o.2.2.2.2.2.1 _ s hk)
      exact ⟨o2.1.u (Nat.zero_le _), o2.2.1, o2.2.2.1, o2.2.2.2.1, fun t ht => (by simp [gP] at ht), o2.2.2.2.2.2⟩
  next => exact o
theorem PPu_o {b : Nat} {s t : Sta} (h : PPu b s) (e : ∀ o, o < 4 → t (40 + o) = s (40 + o)) (e2 : t 45 = s 45) : PPu b t := ⟨fun o ho => by rw [e o ho]; exact h.1 o ho, by rw [e2]; exact h.2⟩
theorem ok_Set {D : Nat} {g : GS} {w v : Int32} (o : Ok D g) : Ok D (nSet g w v) := by
  unfold nSet
  have hn := o.1.1
  split
  next c =>
    obtain ⟨u, hu, rfl⟩ := nI_of (show ¬ v < 0 from Int32.not_lt.mpr (Int32.le_trans (by decide) c.2.1))
    refine ⟨o.1, o.2.1, ⟨u, (nI_leI (by omega) hu).mp c.2.1, (nI_leI hu (by omega)).mp c.2.2, rfl⟩, o.2.2.2⟩
  next =>
    split
    next c =>
      obtain ⟨u, hu, rfl⟩ := nI_of (show ¬ v < 0 from Int32.not_lt.mpr c.2.1)
      have hu9 := (nI_leI hu (by omega)).mp c.2.2
      obtain ⟨d0, k1, k2⟩ := o.day
      refine o.s ⟨PI_cg o.pi hn (fun j hj => upd_n (by omega)) (fun j hj => upd_n (by omega)) ⟨fun q hq => ?_, u, hu9, upd_s⟩ (fun j hj => ?_), d0, k1, ?_⟩
      · rw [upd_n (by omega)]; exact o.pi.2.1.1 q hq
      · rw [upd_n (by omega)]; exact o.pi.2.2 j hj
      · rw [upd_n (by omega)]; exact k2
    next => exact o
theorem shS_o {s : Sta} {kd n f st : Int32} {i : Nat} : ∀ t, t ≤ i → shS s kd n f st t i = s i
  | 0, _ => rfl
  | t + 1, h => by rw [shS, upd_n (by omega), shS_o t (by omega)]
theorem shS_i {s : Sta} {kd n f st : Int32} {i : Nat} : ∀ t, i < t → shS s kd n f st t i = shV kd n f st i
  | 0, h => by omega
  | t + 1, h => by
    rw [shS]
    by_cases c : i = t
    · subst c; exact upd_s
    · rw [upd_n c]; exact shS_i t (by omega)
theorem ok_Sheet {D : Nat} {g : GS} {kd n f st : Int32} (o : Ok D g) : Ok D (nSheet g kd n f st) := by
  unfold nSheet
  have hn := o.1.1
  split
  next c =>
    split
    next => exact o
    next =>
      obtain ⟨d0, k1, k2⟩ := o.day
      refine o.s ⟨PI_cg o.pi hn (fun j hj => shS_o _ (by omega)) (fun j hj => shS_o _ (by omega)) (PPu_o o.pi.2.1 (fun q hq => shS_o _ (by omega)) (shS_o _ (by omega))) (fun j hj => ?_), d0, k1, by rw [shS_o _ (by omega)]; exact k2⟩
      rw [shS_i _ hj]
      unfold shV
      split
      · exact ⟨0, by omega, rfl⟩
      · exact clampN_in _
  next => exact o
theorem WaK_0 {n : Nat} : WaK n (fun _ => nI 0) := fun f _ => ⟨0, by omega, rfl, fun o ho => by rw [Nat.zero_testBit] at ho; cases ho⟩
theorem ok_Wash {D : Nat} {g : GS} (o : Ok D g) : Ok D (nWash g) := o.a (Nat.zero_le _) WaK_0
theorem Ok.h {D : Nat} {g : GS} {w : Nat × (Nat → Int32) × (Nat → Int32)} (o : Ok D g) (h : w.1 ≤ 12) : Ok D (uH g w) := ⟨⟨o.1.1, o.1.2.1, o.1.2.2.1, o.1.2.2.2.1, o.1.2.2.2.2.1, o.1.2.2.2.2.2.1, h, o.1.2.2.2.2.2.2.2⟩, o.2⟩
theorem ok_Heard {D : Nat} {g : GS} {kd v : Int32} (o : Ok D g) : Ok D (nHeard g kd v) := by
  unfold nHeard
  split
  next c => exact o.h (show gH g + 1 ≤ 12 by have := of_decide_eq_true (and3 c).1; omega)
  next => exact o
theorem ok_Forget {D : Nat} {g : GS} (o : Ok D g) : Ok D (nForget g) := o.h (Nat.zero_le _)
theorem WaK_sc {A : Nat → Int32} {n a b : Nat} (hn : n ≤ 8) (wk : WaK n A) (ha : a < n) (hb : b < n) (hab : a ≠ b) (hno : ¬ hsB (A a) b = true) : WaK n (scF A a b 8) := by
  obtain ⟨ma, hma, ema, kma⟩ := wk a (by omega)
  have hA : ∀ f, f < 8 → ∀ q, q < 8 → hsB (scF A a b 8 f) q = (hsB (A f) q || (decide (f = b ∨ hsB (A f) b = true) && (decide (q = a) || hsB (A a) q))) := by
    intro f hf q hq
    unfold scF
    by_cases c : f = b ∨ hsB (A f) b = true
    · rw [if_pos ⟨hf, c⟩, hs_or (by omega), hs_or (by omega), hs_bit (by omega) hq, dT c, Bool.true_and]
      cases hsB (A f) q <;> cases hsB (A a) q <;> cases decide (q = a) <;> rfl
    · rw [if_neg (fun w => c w.2), dF c, Bool.false_and, Bool.or_false]
  have inn : ∀ f, f < 8 → ∀ q, q < 8 → hsB (A f) q = true → q < n ∧ f < n ∧ q ≠ f ∧ ∀ p, p < 8 → hsB (A q) p = true → hsB (A f) p = true := by
    intro f hf q hq h
    obtain ⟨m, hm, em, km⟩ := wk f hf
    rw [em, hsB_tb hm hq] at h
    obtain ⟨r1, r2, r3, r4⟩ := km q h
    exact ⟨r1, r2, r3, fun p hp w => by rw [em, hsB_tb hm hp]; exact r4 p hp w⟩
  intro f hf
  obtain ⟨m, hm, em, km⟩ := wk f hf
  obtain ⟨m', hm', em'⟩ : ∃ m', m' < 256 ∧ scF A a b 8 f = nI m' := by
    unfold scF
    by_cases c : f < 8 ∧ (f = b ∨ hsB (A f) b = true)
    · rw [if_pos c, em, ema, bit_nI a (by omega), nI_or, nI_or]
      exact ⟨_, Nat.or_lt_two_pow (n := 8) hm (Nat.or_lt_two_pow (n := 8) hma (Nat.pow_lt_pow_right (by decide) (by omega))), rfl⟩
    · rw [if_neg c, em]; exact ⟨m, hm, rfl⟩
  refine ⟨m', hm', em', fun o ho => ?_⟩
  have o8 : o < 8 := by
    refine Classical.byContradiction fun w => ?_
    rw [tb_hi hm' (by omega)] at ho
    cases ho
  have key : ∀ q, q < 8 → m'.testBit q = hsB (scF A a b 8 f) q := fun q hq => by rw [em', hsB_tb hm' hq]
  rw [key o o8, hA f hf o o8] at ho
  -- f's new ones: a and those above a
  have cs : hsB (A f) o = true ∨ ((f = b ∨ hsB (A f) b = true) ∧ (o = a ∨ hsB (A a) o = true)) := by
    rcases or3 ho with w | w
    · exact Or.inl w
    · obtain ⟨w1, w2⟩ := and3 w
      refine Or.inr ⟨of_decide_eq_true w1, ?_⟩
      rcases or3 w2 with w3 | w3
      · exact Or.inl (of_decide_eq_true w3)
      · exact Or.inr w3
  have fb : (f = b ∨ hsB (A f) b = true) → f < n ∧ f ≠ a ∧ ¬ hsB (A a) f = true := by
    rintro (w | w)
    · exact ⟨by omega, by omega, by rw [w]; exact hno⟩
    · obtain ⟨r1, r2, r3, r4⟩ := inn f hf b (by omega) w
      refine ⟨r2, fun e => hno (by rw [← e]; exact w), fun e => hno ?_⟩
      exact (inn a (by omega) f hf e).2.2.2 b (by omega) w
  refine ⟨?_, ?_, ?_, fun p hp w => ?_⟩
  · rcases cs with c | ⟨-, c | c⟩
    · exact (inn f hf o o8 c).1
    · omega
    · exact (inn a (by omega) o o8 c).1
  · rcases cs with c | ⟨c, -⟩
    · exact (inn f hf o o8 c).2.1
    · exact (fb c).1
  · rcases cs with c | ⟨c, c2 | c2⟩
    · exact (inn f hf o o8 c).2.2.1
    · have := (fb c).2.1; omega
    · intro e; exact (fb c).2.2 (by rw [← e]; exact c2)
  · rw [key p hp, hA f hf p hp]
    rw [hA o o8 p hp] at w
    have goal1 : hsB (A f) p = true → (hsB (A f) p || (decide (f = b ∨ hsB (A f) b = true) && (decide (p = a) || hsB (A a) p))) = true := fun h => by rw [h]; rfl
    have goal2 : (f = b ∨ hsB (A f) b = true) → (p = a ∨ hsB (A a) p = true) → (hsB (A f) p || (decide (f = b ∨ hsB (A f) b = true) && (decide (p = a) || hsB (A a) p))) = true := by
      intro h1 h2
      rw [dT h1, Bool.true_and]
      rcases h2 with h2 | h2
      · rw [dT h2, Bool.true_or, Bool.or_true]
      · rw [h2, Bool.or_true, Bool.or_true]
    have ws : hsB (A o) p = true ∨ ((o = b ∨ hsB (A o) b = true) ∧ (p = a ∨ hsB (A a) p = true)) := by
      rcases or3 w with w | w
      · exact Or.inl w
      · obtain ⟨w1, w2⟩ := and3 w
        refine Or.inr ⟨of_decide_eq_true w1, ?_⟩
        rcases or3 w2 with w3 | w3
        · exact Or.inl (of_decide_eq_true w3)
        · exact Or.inr w3
    rcases cs with c | ⟨c, c2⟩
    · rcases ws with u | ⟨u1, u2⟩
      · exact goal1 ((inn f hf o o8 c).2.2.2 p hp u)
      · refine goal2 ?_ u2
        rcases u1 with u1 | u1
        · exact Or.inr (by rw [← u1]; exact c)
        · exact Or.inr ((inn f hf o o8 c).2.2.2 b (by omega) u1)
    · refine goal2 c ?_
      rcases ws with u | ⟨u1, u2⟩
      · rcases c2 with c2 | c2
        · exact Or.inr (by rw [← c2]; exact u)
        · exact Or.inr ((inn a (by omega) o o8 c2).2.2.2 p hp u)
      · exact u2
theorem ok_Score {D : Nat} {g : GS} {x y : Int32} (o : Ok D g) : Ok D (nScore g x y) := by
  unfold nScore
  have hn := o.1.1
  split
  next c =>
    split
    next => exact o
    next c2 =>
      obtain ⟨p, hp, rfl⟩ := hasN_get c.1 (by omega)
      obtain ⟨q, hq, rfl⟩ := hasN_get c.2.1 (by omega)
      rw [nI_clamp (by omega), nI_clamp (by omega)] at c2 ⊢
      have := o.1.v
      exact o.a (show gV g + 1 ≤ 20 by have := c.2.2.2; omega) (WaK_sc hn o.2.2.2.2.2.2 hp hq (fun w => c.2.2.1 (by rw [w])) c2)
  next => exact o
