/-! class Wall -/
theorem c_wisAbove {k i j : Nat} {h : Hp} (hj : j < 8) : Ct alC mX10_isAbove k [vR 10 0, vI (nI i), vI (nI j)] h (Rd h (b2 (hsB (h.1 35 0 j) i))) := by
  refine ct_vc tX10_isAbove [] 20 okC kX10_isAbove rfl ?_
  refine ⟨ix1 8 hj, ?_⟩
  rw [nI_clamp (by omega)]
  exact ⟨fun c => ⟨Or.inl rfl, bF (dF c), rfl⟩, fun c => ⟨Or.inr rfl, bT (dT (nn c)), rfl⟩⟩
/-- the first t cells cleared -/
def zrF (f : Nat → Int32) (t : Nat) : Nat → Int32 := fun q => if q < t then nI 0 else f q
theorem c_wclear {k : Nat} {h : Hp} : Ct alC mX10_clear k [vR 10 0] h (Rv (sV (sX h 10 0 4 (nI 0)) 35 0 (fun _ => nI 0))) := by
  have L : ∀ t, t ≤ 8 → WP alC mX10_clear k (Rv (sV (sX h 10 0 4 (nI 0)) 35 0 (fun _ => nI 0))) 7 [some (vR 10 0), some (vI (nI t))] [] (sV (sX h 10 0 4 (nI 0)) 35 0 (zrF (h.1 35 0) t)) := by
    refine loop_up 8 ?_ (fun t ht ih => ?_)
    · refine wp_at tX10_clear [(26, [])] 20 7 okC kX10_clear ⟨fun _ => ?_, fun c => absurd (nI_le (Nat.le_refl 8) (by omega)) c⟩
      refine wp_eqv (h' := sV (sX h 10 0 4 (nI 0)) 35 0 (fun _ => nI 0)) (eqv_V (q := (0, 8, 0, 0, 0, 0)) rfl (fun j hj => if_pos hj)) ?_
      exact wp_at tX10_clear [] 20 26 okC kX10_clear rfl
    · refine wp_at tX10_clear [(7, [true, true])] 40 7 okC kX10_clear ⟨fun c => absurd c (nI_ge ht (by omega)), fun _ => ⟨ix1 8 ht, ?_⟩⟩
      rw [nI_clamp (by omega), sV_sX]
      rw [← nI_add t 1] at ih
      refine wp_h ?_ ih
      congr 1
      funext q
      unfold zrF
      by_cases c : q = t
      · subst c; rw [upd_s, if_pos (by omega)]
      · rw [upd_n c]
        by_cases c2 : q < t
        · rw [if_pos c2, if_pos (by omega)]
        · rw [if_neg c2, if_neg (by omega)]
  refine ct_vc tX10_clear [(7, [true, true])] 20 okC kX10_clear rfl ?_
  refine wp_h ?_ (L 0 (by omega))
  refine hp_eq (fun k' i' => ?_) rfl
  rw [rdV]
  split
  next c => obtain ⟨rfl, rfl⟩ := c; unfold sX; rw [rdV]; simp; rfl
  next => rfl
/-- above, after one is told to be above another: the first t cells done -/
def scF (ab : Nat → Int32) (one other t : Nat) : Nat → Int32 := fun q => if q < t ∧ (q = other ∨ hsB (ab q) other = true) then ab q ||| (ab one ||| bit one) else ab q
theorem c_scratch {k one other : Nat} {h : Hp} (h1 : one < 8) (h2 : other < 8) : Ct alC mX10_scratch (k + 1) [vR 10 0, vI (nI one), vI (nI other)] h (Rv (sX (sV h 35 0 (scF (h.1 35 0) one other 8)) 10 0 4 (h.1 10 0 4 + nI 1))) := by
  have L : ∀ t, t ≤ 8 → WP alC mX10_scratch (k + 1) (Rv (sX (sV h 35 0 (scF (h.1 35 0) one other 8)) 10 0 4 (h.1 10 0 4 + nI 1))) 14 [some (vR 10 0), none, some (vI (nI other)), some (vI (h.1 35 0 one ||| bit one)), some (vI (nI t))] [] (sV h 35 0 (scF (h.1 35 0) one other t)) := by
    refine loop_up 8 ?_ (fun t ht ih => ?_)
    · refine wp_at tX10_scratch [] 20 14 okC kX10_scratch ⟨fun _ => ?_, fun c => absurd (nI_le (Nat.le_refl 8) (by omega)) c⟩
      show sX (sV h 35 0 (scF (h.1 35 0) one other 8)) 10 0 4 ((sV h 35 0 (scF (h.1 35 0) one other 8)).1 10 0 4 + nI 1) = _
      rw [rdVj]
      simp
    · have et : (sV h 35 0 (scF (h.1 35 0) one other t)).1 35 0 = scF (h.1 35 0) one other t := sV_same
      have eq : scF (h.1 35 0) one other t t = h.1 35 0 t := if_neg (fun z => by omega)
      have yes : (t = other ∨ hsB (h.1 35 0 t) other = true) → WP alC mX10_scratch (k + 1) (Rv (sX (sV h 35 0 (scF (h.1 35 0) one other 8)) 10 0 4 (h.1 10 0 4 + nI 1))) 37 [some (vR 10 0), none, some (vI (nI other)), some (vI (h.1 35 0 one ||| bit one)), some (vI (nI t))] [] (sV h 35 0 (scF (h.1 35 0) one other t)) := by
        intro c
        refine wp_at tX10_scratch [(14, [true, false, true, true, true])] 20 37 okC kX10_scratch ⟨ix1 8 ht, ix1 8 ht, ?_⟩
        rw [nI_clamp (by omega), et, eq, sV_sX]
        rw [← nI_add t 1] at ih
        refine wp_h ?_ ih
        congr 1
        funext q
        unfold scF
        by_cases cq : q = t
        · subst cq; rw [upd_s, if_pos ⟨by omega, c⟩]
        · rw [upd_n cq]
          by_cases c2 : q < t ∧ (q = other ∨ hsB (h.1 35 0 q) other = true)
          · rw [if_pos c2, if_pos ⟨by omega, c2.2⟩]
          · rw [if_neg c2, if_neg (fun z => c2 ⟨by omega, z.2⟩)]
      have no : ¬ (t = other ∨ hsB (h.1 35 0 t) other = true) → WP alC mX10_scratch (k + 1) (Rv (sX (sV h 35 0 (scF (h.1 35 0) one other 8)) 10 0 4 (h.1 10 0 4 + nI 1))) 48 [some (vR 10 0), none, some (vI (nI other)), some (vI (h.1 35 0 one ||| bit one)), some (vI (nI t))] [] (sV h 35 0 (scF (h.1 35 0) one other t)) := by
        intro c
        refine wp_at tX10_scratch [(14, [true, false, true, true, true])] 20 48 okC kX10_scratch ?_
        rw [← nI_add t 1] at ih
        refine wp_h ?_ ih
        congr 1
        funext q
        unfold scF
        by_cases cq : q = t
        · subst cq; rw [if_neg (fun z => by omega), if_neg (fun z => c z.2)]
        · by_cases c2 : q < t ∧ (q = other ∨ hsB (h.1 35 0 q) other = true)
          · rw [if_pos c2, if_pos ⟨by omega, c2.2⟩]
          · rw [if_neg c2, if_neg (fun z => c2 ⟨by omega, z.2⟩)]
      refine wp_at tX10_scratch [(37, [true, false, true, true, true]), (48, [true, false, true, true, true])] 40 14 okC kX10_scratch ⟨fun c => absurd c (nI_ge ht (by omega)), fun _ => ⟨fun c => ?_, fun c => ⟨_, c_wisAbove ht, ?_⟩⟩⟩
      · exact yes (Or.inl (nI_inj (by omega) (by omega) c))
      · rintro v h' ⟨rfl, rfl⟩
        rw [et, eq]
        refine ⟨fun c2 => no (fun z => ?_), fun c2 => yes (Or.inr (b2_n0.mp c2))⟩
        rcases z with z | z
        · exact c (by rw [z])
        · rw [b2_0.mp c2] at z; cases z
  refine ct_vc tX10_scratch [(14, [true, false, true, true, true])] 20 okC kX10_scratch rfl ?_
  refine ⟨ix1 8 h1, ?_⟩
  rw [nI_clamp (by omega)]
  refine wp_h ?_ (L 0 (by omega))
  refine hp_eq (fun k' i' => ?_) rfl
  rw [rdV]
  split
  next c => obtain ⟨rfl, rfl⟩ := c; funext q; unfold scF; rw [if_neg (fun z => by omega)]
  next => rfl
/-- how many are below -/
def cbF (ab : Nat → Int32) (f n : Nat) : Int32 := smF (fun j => b2 (hsB (ab j) f)) n
theorem cbF_s (ab : Nat → Int32) (f t : Nat) : cbF ab f (t + 1) = cbF ab f t + b2 (hsB (ab t) f) := rfl
theorem c_countBelow {k f : Nat} {h : Hp} : Ct alC mX10_countBelow (k + 1) [vR 10 0, vI (nI f)] h (Rd h (cbF (h.1 35 0) f 8)) := by
  have L : ∀ t, t ≤ 8 → WP alC mX10_countBelow (k + 1) (Rd h (cbF (h.1 35 0) f 8)) 4 [some (vR 10 0), some (vI (nI f)), some (vI (cbF (h.1 35 0) f t)), some (vI (nI t))] [] h := by
    refine loop_up 8 ?_ (fun t ht ih => ?_)
    · exact wp_at tX10_countBelow [] 20 4 okC kX10_countBelow ⟨fun _ => ⟨rfl, rfl⟩, fun c => absurd (nI_le (Nat.le_refl 8) (by omega)) c⟩
    · refine wp_at tX10_countBelow [(4, [true, true, true, true])] 40 4 okC kX10_countBelow ⟨fun c => absurd c (nI_ge ht (by omega)), fun _ => ⟨_, c_wisAbove ht, ?_⟩⟩
      rintro v h' ⟨rfl, rfl⟩
      rw [cbF_s _ f t, ← nI_add t 1] at ih
      refine ⟨fun c => ?_, fun c => ?_⟩
      · rw [b2_0.mp c] at ih; exact ih
      · rw [b2_n0.mp c] at ih; exact ih
  exact ct_vc tX10_countBelow [(4, [true, true, true, true])] 20 okC kX10_countBelow rfl (L 0 (by omega))
/-- f may come next behind the set -/
def cfB (ab : Nat → Int32) (f : Nat) (set : Int32) : Bool := decide ((set >>> (nI f &&& 31)) &&& nI 1 = 0) && decide (ab f &&& (set ^^^ -(nI 1)) = 0)
theorem c_canFollow {k f : Nat} {h : Hp} {set : Int32} (hf : f < 8) : Ct alC mX10_canFollow k [vR 10 0, vI (nI f), vI set] h (Rd h (b2 (cfB (h.1 35 0) f set))) := by
  refine ct_vc tX10_canFollow [] 30 okC kX10_canFollow rfl ?_
  unfold cfB
  refine ⟨fun c => ⟨Or.inl rfl, bF (by rw [dF c]; rfl), rfl⟩, fun c => ⟨ix1 8 hf, ?_⟩⟩
  rw [nI_clamp (by omega)]
  exact ⟨fun c2 => ⟨Or.inl rfl, bF (by rw [dF c2, Bool.and_false]), rfl⟩, fun c2 => ⟨Or.inr rfl, bT (by rw [dT (nn c), dT (nn c2)]; rfl), rfl⟩⟩
/-- the least that may come next -/
def lnF (ab : Nat → Int32) (set : Int32) : Nat → Nat → Nat
  | 0, _ => 0
  | f + 1, i => if cfB ab i set = true then i else lnF ab set f (i + 1)
theorem c_leastNext {k : Nat} {h : Hp} {set : Int32} : Ct alC mX10_leastNext (k + 1) [vR 10 0, vI set] h (Rd h (nI (lnF (h.1 35 0) set 8 0))) := by
  have L : ∀ f i, i + f = 8 → lnF (h.1 35 0) set f i = lnF (h.1 35 0) set 8 0 → WP alC mX10_leastNext (k + 1) (Rd h (nI (lnF (h.1 35 0) set 8 0))) 2 [some (vR 10 0), some (vI set), some (vI (nI i))] [] h := by
    intro f
    induction f with
    | zero =>
      intro i hi e
      refine wp_at tX10_leastNext [] 20 2 okC kX10_leastNext ⟨fun _ => ?_, fun c => absurd (nI_le (by omega) (by omega)) c⟩
      rw [← e]
      exact ⟨rfl, rfl⟩
    | succ f ih =>
      intro i hi e
      refine wp_at tX10_leastNext [(2, [true, true, true])] 40 2 okC kX10_leastNext ⟨fun c => absurd c (nI_ge (by omega) (by omega)), fun _ => ⟨_, c_canFollow (by omega), ?_⟩⟩
      rintro v h' ⟨rfl, rfl⟩
      rw [lnF] at e
      refine ⟨fun c => ?_, fun c => ?_⟩
      · rw [if_neg (by rw [b2_0.mp c]; decide)] at e
        have := ih (i + 1) (by omega) e
        rw [← nI_add i 1] at this
        exact this
      · rw [if_pos (b2_n0.mp c)] at e
        rw [← e]
        exact ⟨rfl, rfl⟩
  exact ct_vc tX10_leastNext [(2, [true, true, true])] 20 okC kX10_leastNext rfl (L 8 0 rfl rfl)
/-! the counts of orders: sets are numbers below 2 ^ n -/
/-- how many orders have just these highest, as the loop over i goes on; ordersOf -/
def t2i (ab : Nat → Int32) (g : Nat → Int32) (s : Nat) : Nat → Nat → Int32
  | 0 => g
  | i + 1 => if cfB ab i (nI s) = true then upd (t2i ab g s i) (s ||| 2 ^ i) (t2i ab g s i (s ||| 2 ^ i) + t2i ab g s i s) else t2i ab g s i
def t2o (ab : Nat → Int32) (n : Nat) (g : Nat → Int32) : Nat → Nat → Int32
  | 0 => g
  | s + 1 => t2i ab (t2o ab n g s) s n
/-- ordersBehind: from the full set down; d sets are done -/
def t3i (ab : Nat → Int32) (g : Nat → Int32) (s : Nat) : Nat → Nat → Int32
  | 0 => g
  | i + 1 => if cfB ab i (nI s) = true then upd (t3i ab g s i) s (t3i ab g s i s + t3i ab g s i (s ||| 2 ^ i)) else t3i ab g s i
def t3o (ab : Nat → Int32) (n : Nat) (g : Nat → Int32) (all : Nat) : Nat → Nat → Int32
  | 0 => g
  | d + 1 => t3i ab (t3o ab n g all d) (all - d) n
/-- what the first loop lays -/
def t1F (f : Nat → Int32) (one t : Nat) : Nat → Int32 := fun q => if q < t then b2 (decide (q = one)) else f q
theorem t1F_s (f : Nat → Int32) (one t : Nat) : upd (t1F f one t) t (b2 (decide (t = one))) = t1F f one (t + 1) := by
  funext q
  unfold t1F
  by_cases c : q = t
  · subst c; rw [upd_s, if_pos (by omega)]
  · rw [upd_n c]
    by_cases c2 : q < t
    · rw [if_pos c2, if_pos (by omega)]
    · rw [if_neg c2, if_neg (by omega)]
theorem or_lt {s i n : Nat} (hs : s < 2 ^ n) (hi : i < n) : s ||| 2 ^ i < 2 ^ n := Nat.or_lt_two_pow hs (Nat.pow_lt_pow_right (by decide) hi)
theorem p2_le {n : Nat} (hn : n ≤ 8) : 2 ^ n ≤ 256 := Nat.pow_le_pow_right (by decide) hn
theorem or_nI {s i : Nat} (hi : i < 8) : nI s ||| nI 1 <<< (nI i &&& 31) = nI (s ||| 2 ^ i) := by
  rw [show nI 1 <<< (nI i &&& 31) = nI (2 ^ i) from bit_nI i (by omega), nI_or]
theorem all_nI {n : Nat} (hn : n ≤ 8) : nI 1 <<< (nI n &&& 31) - nI 1 = nI (2 ^ n - 1) := by
  rw [show nI 1 <<< (nI n &&& 31) = nI (2 ^ n) from bit_nI n (by omega)]
  exact pk_sub (Nat.one_le_two_pow)
