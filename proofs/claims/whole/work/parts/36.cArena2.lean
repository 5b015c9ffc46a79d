/-! class Arena, the rest -/
theorem c_swapRules {k : Nat} {h : Hp} : Ct alC mX0_swapRules k [vR 0 0] h (Rv (sD (sD h 0 (h.2.2 1)) 1 (h.2.2 0))) := by
  refine ct_vc tX0_swapRules [] 30 okC kX0_swapRules rfl ?_
  exact rfl
/-- who can fight -/
def abF (s : Nat → Int32) (n : Nat) : Int32 := orF (fun j => if canF s j = true then bit j else nI 0) n
theorem c_ableBits {k i n : Nat} {h : Hp} (hc : h.1 3 0 3 = nI n) (hn : n ≤ 8) : Ct alC mX0_ableBits (k + 3) [vR 0 0, vR 8 i] h (Rd h (abF (h.1 33 i) n)) := by
  have L : ∀ t, t ≤ n → WP alC mX0_ableBits (k + 3) (Rd h (abF (h.1 33 i) n)) 4 [some (vR 0 0), some (vR 8 i), some (vI (abF (h.1 33 i) t)), some (vI (nI t))] [] h := by
    refine loop_up n ?_ (fun t ht ih => ?_)
    · exact wp_at tX0_ableBits [] 20 4 okC kX0_ableBits ⟨fun _ => ⟨rfl, rfl⟩, fun c => absurd (by rw [hc]; exact nI_le (Nat.le_refl n) (by omega)) c⟩
    · refine wp_at tX0_ableBits [(4, [true, true, true, true])] 40 4 okC kX0_ableBits ⟨fun c => absurd c (by rw [hc]; exact nI_ge ht (by omega)), fun _ => ⟨_, c_canFight (by omega), ?_⟩⟩
      rintro v h' ⟨rfl, rfl⟩
      unfold abF at ih ⊢
      rw [orF, ← nI_add t 1] at ih
      refine ⟨fun c => ?_, fun c => ?_⟩
      · rw [if_neg (by rw [b2_0.mp c]; decide)] at ih; exact ih
      · rw [if_pos (b2_n0.mp c)] at ih; exact ih
  exact ct_vc tX0_ableBits [(4, [true, true, true, true])] 20 okC kX0_ableBits rfl (L 0 (Nat.zero_le n))
/-- days for the first n -/
def dyF (s : Nat → Int32) (d : Int32) : Nat → Nat → Int32
  | 0 => s
  | t + 1 => if dyF s d t (32 + t) = 0 then upd (dyF s d t) (8 + t) (mxI (nI 0) (dyF s d t (8 + t) - d)) else dyF s d t
def psF (n : Nat) (s : Nat → Int32) (d : Int32) : Nat → Int32 := upd (dyF s d n) 46 (dyF s d n 46 + d)
def okD (d : Int32) : Bool := decide (nI 1 ≤ d) && decide (d ≤ nI 30)
theorem c_pass {k i n : Nat} {h : Hp} {d : Int32} (hc : h.1 3 0 3 = nI n) (hn : n ≤ 8) : Ct alC mX0_pass (k + 2) [vR 0 0, vR 8 i, vI d] h (Rt (if okD d = true then psF n (h.1 33 i) d 46 else -(nI 1)) (if okD d = true then sV h 33 i (psF n (h.1 33 i) d) else h)) := by
  have L : okD d = true → ∀ t, t ≤ n → WP alC mX0_pass (k + 2) (Rt (if okD d = true then psF n (h.1 33 i) d 46 else -(nI 1)) (if okD d = true then sV h 33 i (psF n (h.1 33 i) d) else h)) 15 [some (vR 0 0), some (vR 8 i), some (vI d), some (vI (nI t))] [] (sV h 33 i (dyF (h.1 33 i) d t)) := by
    intro hok
    have hcv : ∀ s, (sV h 33 i s).1 3 0 3 = nI n := fun s => by rw [rdV, if_neg (by simp), hc]
    refine loop_up n ?_ (fun t ht ih => ?_)
    · refine wp_at tX0_pass [] 30 15 okC kX0_pass ⟨fun _ => ⟨ix1 47 (by omega), ix1 47 (by omega), ix1 47 (by omega), ?_⟩, fun c => absurd (by rw [hcv]; exact nI_le (Nat.le_refl n) (by omega)) c⟩
      simp only [nI_clamp (show 46 < 2 ^ 31 by omega), sV_sX, sV_same]
      rw [if_pos hok, if_pos hok]
      exact ⟨rfl, rfl⟩
    · refine wp_at tX0_pass [(15, [true, true, true, true])] 60 15 okC kX0_pass ⟨fun c => absurd c (by rw [hcv]; exact nI_ge ht (by omega)), fun _ => ⟨_, c_isHere (by omega), ?_⟩⟩
      rintro v h' ⟨rfl, rfl⟩
      rw [sV_same]
      rw [dyF, ← nI_add t 1] at ih
      refine ⟨fun c => ?_, fun c => ⟨_, c_hurt (by omega), ?_⟩⟩
      · rw [if_neg (of_decide_eq_false (b2_0.mp c))] at ih; exact ih
      · rintro v h' ⟨rfl, rfl⟩
        rw [if_pos (of_decide_eq_true (b2_n0.mp c))] at ih
        refine ⟨ixN 47 (by omega), ?_⟩
        rw [ixC (by omega), sV_sX, sV_same]
        exact ih
  refine ct_vc tX0_pass [(15, [true, true, true, true])] 30 okC kX0_pass rfl ?_
  refine ⟨fun c => ?_, fun c => ⟨fun c2 => ?_, fun c2 => ?_⟩⟩
  · have hno : ¬ okD d = true := fun z => by
      unfold okD at z
      rw [dF (i_len c)] at z
      cases z
    rw [if_neg hno, if_neg hno]
    exact ⟨rfl, rfl⟩
  · have hok : okD d = true := by
      unfold okD
      rw [dT (i_nlt c), dT c2]
      rfl
    have := L hok 0 (Nat.zero_le n)
    rw [dyF, sV_id] at this
    exact this
  · have hno : ¬ okD d = true := fun z => by
      unfold okD at z
      rw [dF c2, Bool.and_false] at z
      cases z
    rw [if_neg hno, if_neg hno]
    exact ⟨rfl, rfl⟩
/-- a SONG -/
def sgA (n : Nat) (s : Nat → Int32) (x p : Int32) : Int32 := if hasN x n = true ∧ nI 1 ≤ p ∧ p ≤ nI 99 then (if s (32 + x.toNatClampNeg) = 0 then (if p ≤ s 45 then nI 0 else -(nI 3)) else -(nI 2)) else -(nI 1)
def sgF (s : Nat → Int32) (j : Nat) (p : Int32) : Nat → Int32 := likF (upd s 45 (s 45 - p)) j (nI 3)
theorem c_sing {k n i : Nat} {h : Hp} {x p : Int32} (hc : h.1 3 0 3 = nI n) (hn : n ≤ 8) : Ct alC mX0_sing (k + 2) [vR 0 0, vR 8 i, vI x, vI p] h (Rt (if sgA n (h.1 33 i) x p = 0 then sgF (h.1 33 i) x.toNatClampNeg p 45 else sgA n (h.1 33 i) x p) (if sgA n (h.1 33 i) x p = 0 then sV h 33 i (sgF (h.1 33 i) x.toNatClampNeg p) else h)) := by
  have E1 : ¬ (hasN x n = true ∧ nI 1 ≤ p ∧ p ≤ nI 99) → sgA n (h.1 33 i) x p = -(nI 1) := fun z => by unfold sgA; rw [if_neg z]
  have F1 : sgA n (h.1 33 i) x p = -(nI 1) → WP alC mX0_sing (k + 2) (Rt (if sgA n (h.1 33 i) x p = 0 then sgF (h.1 33 i) x.toNatClampNeg p 45 else sgA n (h.1 33 i) x p) (if sgA n (h.1 33 i) x p = 0 then sV h 33 i (sgF (h.1 33 i) x.toNatClampNeg p) else h)) 22 [none, none, none, none] [] h := by
    intro e
    refine wp_at tX0_sing [] 10 22 okC kX0_sing ?_
    rw [e, if_neg (by decide), if_neg (by decide)]
    exact ⟨rfl, rfl⟩
  refine ct_vc tX0_sing [(22, [false, false, false, false])] 60 okC kX0_sing rfl ?_
  refine ⟨_, c_has hc, ?_⟩
  rintro v h' ⟨rfl, rfl⟩
  refine ⟨fun c => F1 (E1 (fun z => by rw [z.1] at c; exact absurd c (by decide))), fun c => ⟨fun c2 => F1 (E1 (fun z => (i_len c2) z.2.1)), fun c2 => ⟨fun c3 => ?_, fun c3 => F1 (E1 (fun z => c3 z.2.2))⟩⟩⟩
  have hx := b2_n0.mp c
  have hall : hasN x n = true ∧ nI 1 ≤ p ∧ p ≤ nI 99 := ⟨hx, i_nlt c2, c3⟩
  obtain ⟨a, ha, rfl⟩ := hasN_get hx (by omega)
  rw [nI_clamp (by omega)]
  refine ⟨_, c_isHere (by omega), ?_⟩
  rintro v h' ⟨rfl, rfl⟩
  refine ⟨fun c4 => ⟨_, c_means, ?_⟩, fun c4 => ?_⟩
  · have h4 := of_decide_eq_true (b2_n0.mp c4)
    rintro v h' ⟨rfl, rfl⟩
    refine ⟨fun c5 => ?_, fun c5 => ?_⟩
    · have e : sgA n (h'.1 33 i) (nI a) p = nI 0 := by unfold sgA; rw [if_pos hall, nI_clamp (by omega), if_pos h4, if_pos c5]
      rw [e, if_pos (show nI 0 = 0 from rfl), if_pos (show nI 0 = 0 from rfl)]
      refine ⟨ix1 47 (by omega), ix1 47 (by omega), _, c_like (by omega), ?_⟩
      rintro v h' rfl
      refine ⟨_, c_means, ?_⟩
      rintro v h' ⟨rfl, rfl⟩
      simp only [nI_clamp (show 45 < 2 ^ 31 by omega), sX_eq, sV_same, sV_sV]
      exact ⟨rfl, rfl⟩
    · have e : sgA n (h'.1 33 i) (nI a) p = -(nI 3) := by unfold sgA; rw [if_pos hall, nI_clamp (by omega), if_pos h4, if_neg c5]
      rw [e, if_neg (by decide), if_neg (by decide)]
      exact ⟨rfl, rfl⟩
  · have e : sgA n (h'.1 33 i) (nI a) p = -(nI 2) := by unfold sgA; rw [if_pos hall, nI_clamp (by omega), if_neg (of_decide_eq_false (b2_0.mp (nn c4)))]
    rw [e, if_neg (by decide), if_neg (by decide)]
    exact ⟨rfl, rfl⟩
/-- bought free -/
def bfA (R : Nat → Nat → Int32) (n : Nat) (s : Nat → Int32) (x : Int32) : Int32 := if hasN x n = true then (if s (32 + x.toNatClampNeg) = 0 then (if nI 20 * R 2 x.toNatClampNeg ≤ s (40 + (R 3 x.toNatClampNeg).toNatClampNeg) then nI 0 else -(nI 3)) else -(nI 2)) else -(nI 1)
def bfF (R : Nat → Nat → Int32) (s : Nat → Int32) (j : Nat) : Nat → Int32 := upd (upd s (40 + (R 3 j).toNatClampNeg) (s (40 + (R 3 j).toNatClampNeg) - nI 20 * R 2 j)) (32 + j) (nI 2)
theorem c_buyFree {k n i : Nat} {h : Hp} {x : Int32} (hc : h.1 3 0 3 = nI n) (hn : n ≤ 8) (hR : RoK (ro h 0) n) : Ct alC mX0_buyFree (k + 2) [vR 0 0, vR 8 i, vI x] h (Rt (if bfA (ro h 0) n (h.1 33 i) x = 0 then bfF (ro h 0) (h.1 33 i) x.toNatClampNeg (40 + (ro h 0 3 x.toNatClampNeg).toNatClampNeg) else bfA (ro h 0) n (h.1 33 i) x) (if bfA (ro h 0) n (h.1 33 i) x = 0 then sV h 33 i (bfF (ro h 0) (h.1 33 i) x.toNatClampNeg) else h)) := by
  refine ct_vc tX0_buyFree [] 80 okC kX0_buyFree rfl ?_
  refine ⟨_, c_has hc, ?_⟩
  rintro v h' ⟨rfl, rfl⟩
  refine ⟨fun c => ?_, fun c => ?_⟩
  · have hx := b2_n0.mp c
    obtain ⟨a, ha, rfl⟩ := hasN_get hx (by omega)
    obtain ⟨-, -, -, ow, how, eow⟩ := hR a ha
    have eow' : h'.1 38 (5 * 0 + 3) a = nI ow := eow
    rw [nI_clamp (by omega)]
    refine ⟨_, c_isHere (by omega), ?_⟩
    rintro v h' ⟨rfl, rfl⟩
    refine ⟨fun c4 => ⟨_, c_of (by omega) (by omega), ?_⟩, fun c4 => ?_⟩
    · have h4 := of_decide_eq_true (b2_n0.mp c4)
      rintro v h' ⟨rfl, rfl⟩
      refine ⟨_, c_of (by omega) (by omega), ?_⟩
      rintro v h' ⟨rfl, rfl⟩
      rw [eow']
      refine ⟨ixN 47 (by omega), ?_⟩
      rw [ixC (by omega)]
      refine ⟨fun c5 => ?_, fun c5 => ?_⟩
      · have e : bfA (ro h' 0) n (h'.1 33 i) (nI a) = nI 0 := by unfold bfA; rw [if_pos hx, nI_clamp (by omega), if_pos h4, eow, nI_clamp (by omega)]; exact if_pos c5
        rw [e, if_pos (show nI 0 = 0 from rfl), if_pos (show nI 0 = 0 from rfl)]
        refine ⟨ixN 47 (by omega), ixN 47 (by omega), ixN 47 (by omega), ixN 47 (by omega), ?_⟩
        simp only [ixC (show 40 + ow < 2 ^ 31 by omega), ixC (show 32 + a < 2 ^ 31 by omega), sX_eq, sV_same, sV_sV]
        unfold bfF
        rw [eow, nI_clamp (by omega)]
        exact ⟨rfl, rfl⟩
      · have e : bfA (ro h' 0) n (h'.1 33 i) (nI a) = -(nI 3) := by unfold bfA; rw [if_pos hx, nI_clamp (by omega), if_pos h4, eow, nI_clamp (by omega)]; exact if_neg c5
        rw [e, if_neg (by decide), if_neg (by decide)]
        exact ⟨rfl, rfl⟩
    · have e : bfA (ro h' 0) n (h'.1 33 i) (nI a) = -(nI 2) := by unfold bfA; rw [if_pos hx, nI_clamp (by omega), if_neg (of_decide_eq_false (b2_0.mp (nn c4)))]
      rw [e, if_neg (by decide), if_neg (by decide)]
      exact ⟨rfl, rfl⟩
  · have e : bfA (ro h' 0) n (h'.1 33 i) x = -(nI 1) := by unfold bfA; rw [if_neg (by rw [b2_0.mp (nn c)]; decide)]
    rw [e, if_neg (by decide), if_neg (by decide)]
    exact ⟨rfl, rfl⟩
