/-! class Text.put, Rule.read -/
/-- what a call may have changed: the rows S alone -/
def Fr (S : List Ad) (h h' : Hp) : Prop := h'.2 = h.2 ∧ ∀ k i, (k, i) ∉ S → h'.1 k i = h.1 k i
theorem Fr.rf {S : List Ad} {h : Hp} : Fr S h h := ⟨rfl, fun _ _ _ => rfl⟩
theorem Fr.tr {S S' : List Ad} {h h1 h2 : Hp} (a : Fr S h h1) (b : Fr S' h1 h2) (e : ∀ x, x ∈ S' → x ∈ S) : Fr S h h2 := ⟨b.1.trans a.1, fun k i n => (b.2 k i (fun z => n (e _ z))).trans (a.2 k i n)⟩
theorem Fr.mo {S S' : List Ad} {h h1 : Hp} (a : Fr S' h h1) (e : ∀ x, x ∈ S' → x ∈ S) : Fr S h h1 := ⟨a.1, fun k i n => a.2 k i (fun z => n (e _ z))⟩
theorem Fr.sV {S : List Ad} {h h1 : Hp} {k i : Nat} {f : Nat → Int32} (a : Fr S h h1) (e : (k, i) ∈ S) : Fr S h (sV h1 k i f) := by
  refine ⟨a.1, fun k' i' n => ?_⟩
  rw [rdV, if_neg (fun z => n (by rw [z.1, z.2]; exact e))]
  exact a.2 k' i' n
theorem Fr.sX {S : List Ad} {h h1 : Hp} {k i j : Nat} {x : Int32} (a : Fr S h h1) (e : (k, i) ∈ S) : Fr S h (sX h1 k i j x) := Fr.sV a e
/-- the first n signs are the standard rule's -/
def putF (T : Nat → Int32) (n : Nat) : Nat → Int32 := fun j => if j < n then chS 2 j else T j
theorem putF_s {T : Nat → Int32} {n : Nat} : upd (putF T n) n (chS 2 n) = putF T (n + 1) := by
  funext j
  unfold upd putF
  by_cases c : j = n
  · subst c; rw [if_pos rfl, if_pos (by omega)]
  · rw [if_neg c]
    by_cases c2 : j < n
    · rw [if_pos c2, if_pos (by omega)]
    · rw [if_neg c2, if_neg (by omega)]
def ptH (h : Hp) (n : Nat) : Hp := sX (sV h 34 0 (putF (h.1 34 0) n)) 9 0 1 (nI n)
theorem ptH_s {h : Hp} {n : Nat} : sX (sX (ptH h n) 34 0 n (chS 2 n)) 9 0 1 (nI (n + 1)) = ptH h (n + 1) := by
  refine hp_eq (fun k i => ?_) rfl
  unfold ptH
  simp only [sX_row, rdV]
  by_cases c9 : k = 9 ∧ i = 0
  · obtain ⟨rfl, rfl⟩ := c9
    simp
    funext j
    unfold upd
    split <;> simp_all
  · rw [if_neg c9, if_neg c9, if_neg c9]
    by_cases c : k = 34 ∧ i = 0
    · obtain ⟨rfl, rfl⟩ := c
      simp [putF_s]
    · rw [if_neg c, if_neg c, if_neg c]
theorem c_put {k : Nat} {h : Hp} : Ct alC mX9_put (k + 4) [vR 9 0, vR 90 2] h (Rv (ptH h 20)) := by
  have L : ∀ t, t ≤ 20 → WP alC mX9_put (k + 4) (Rv (ptH h 20)) 7 [some (vR 9 0), some (vR 90 2), some (vI (nI t))] [] (ptH h t) := by
    refine loop_up 20 ?_ (fun t ht ih => ?_)
    · refine wp_at tX9_put [] 20 7 okC kX9_put ⟨_, c_length okC, ?_⟩
      rintro v h' ⟨rfl, rfl⟩
      exact ⟨fun _ => rfl, fun c => absurd (by decide) c⟩
    · rw [← nI_add t 1] at ih
      refine wp_at tX9_put [(7, [true, true, true])] 40 7 okC kX9_put ⟨_, c_length okC, ?_⟩
      rintro v h' ⟨rfl, rfl⟩
      refine ⟨fun c => absurd c (nI_ge (show t < 20 by omega) (by decide)), fun _ => ⟨fun c => absurd c (nI_ge (show t < 80 by omega) (by decide)), fun _ => ⟨_, c_charAt okC (by decide) (show t < 20 by omega), ?_⟩⟩⟩
      rintro v h' ⟨rfl, rfl⟩
      refine ⟨ix1 80 (by omega), ?_⟩
      rw [nI_clamp (by omega)]
      have e : (sX (ptH h t) 34 0 t (chS 2 t)).1 9 0 1 = nI t := by
        rw [rdX, if_neg (by simp)]; unfold ptH; rw [rdX, if_pos (by simp)]
      show WP alC mX9_put (k + 4) (Rv (ptH h 20)) 7 [some (vR 9 0), some (vR 90 2), some (vI (nI t + nI 1))] [] (sX (sX (ptH h t) 34 0 t (chS 2 t)) 9 0 1 ((sX (ptH h t) 34 0 t (chS 2 t)).1 9 0 1 + nI 1))
      rw [e, nI_add t 1, ptH_s, ← nI_add t 1]
      exact ih
  refine ct_vc tX9_put [(7, [true, true, true])] 20 okC kX9_put rfl ?_
  have e : sX h 9 0 1 (nI 0) = ptH h 0 := by
    unfold ptH
    rw [show putF (h.1 34 0) 0 = h.1 34 0 from funext fun j => if_neg (by omega), sV_id]
  have := L 0 (by omega)
  rw [← e] at this
  exact this
/-- which text a rule is read from -/
def rdT (T : Nat → Int32) (n : Nat) : Nat → Int32 := if n = 0 then putF T 20 else T
def rdn (n : Nat) : Nat := if n = 0 then 20 else n
def rdR (T : Nat → Int32) (n : Nat) : PRs := pRl (rdT T n) (rdn n) 40 4 0
/-- its steps, if it is a rule -/
def rdO (T : Nat → Int32) (n : Nat) : Option (List Int32) := if rdn n ≤ (rdR T n).1 then (rdR T n).2 else none
def rdA (T : Nat → Int32) (n : Nat) : Int32 := match rdO T n with
  | some _ => -(nI 1)
  | none => nI (rdR T n).1
theorem c_rread {K n b : Nat} {h : Hp} (hn : h.1 9 0 1 = nI n) (hn8 : n ≤ 80) : Ct alC mX6_read (K + 33) [vR 6 b, vR 9 0] h (fun v h' => v = vI (rdA (h.1 34 0) n) ∧ Fr [(9, 0), (34, 0), (6, b), (26, b)] h h' ∧ h'.1 34 0 = rdT (h.1 34 0) n ∧ ∀ c, rdO (h.1 34 0) n = some c → h'.1 6 b 2 = nI c.length ∧ ∃ g, h'.1 26 b = lyS g 0 c) := by
  have E : ∀ h1, Fr [(9, 0), (34, 0), (6, b), (26, b)] h h1 → h1.1 9 0 1 = nI (rdn n) → h1.1 34 0 = rdT (h.1 34 0) n → WP alC mX6_read (K + 33) (fun v h' => v = vI (rdA (h.1 34 0) n) ∧ Fr [(9, 0), (34, 0), (6, b), (26, b)] h h' ∧ h'.1 34 0 = rdT (h.1 34 0) n ∧ ∀ c, rdO (h.1 34 0) n = some c → h'.1 6 b 2 = nI c.length ∧ ∃ g, h'.1 26 b = lyS g 0 c) 13 [some (vR 6 b), some (vR 9 0)] [] h1 := by
    intro h1 f1 e1 e2
    have hr80 : rdn n ≤ 80 := by unfold rdn; split <;> omega
    refine wp_at tX6_read [] 40 13 okC kX6_read ⟨_, c_tstart, ?_⟩
    rintro v h' rfl
    have hs : sX (sX (sX h1 9 0 2 (nI 0)) 9 0 3 (nI 40)) 6 b 2 (nI 0) = rH (sX (sX h1 9 0 2 (nI 0)) 9 0 3 (nI 40)) b (h1.1 26 b) 0 0 := by
      refine hp_eq (fun k i => ?_) rfl
      unfold rH sA
      simp only [sX_row, rdV]
      by_cases c6 : k = 6 ∧ i = b
      · obtain ⟨rfl, rfl⟩ := c6
        simp
      · rw [if_neg c6]
        by_cases c9 : k = 9 ∧ i = 0
        · obtain ⟨rfl, rfl⟩ := c9
          simp
          funext j
          unfold upd
          split <;> simp_all
        · rw [if_neg c9]
          by_cases c26 : k = 26 ∧ i = b
          · obtain ⟨rfl, rfl⟩ := c26
            simp
          · simp [c9, c6, c26]
    have hx : Tx (sX (sX h1 9 0 2 (nI 0)) 9 0 3 (nI 40)) (rdn n) 40 0 := by
      refine ⟨?_, ?_, ?_, hr80, by omega, by omega⟩
      · rw [rdX, if_neg (by simp), rdX, if_neg (by simp), e1]
      · rw [rdX, if_neg (by simp), rdX, if_pos (by simp)]
      · rw [rdX, if_pos (by simp)]
    have hT : (sX (sX h1 9 0 2 (nI 0)) 9 0 3 (nI 40)).1 34 0 = rdT (h.1 34 0) n := by
      rw [sX_row, if_neg (by simp), sX_row, if_neg (by simp), e2]
    refine ⟨_, ct_cv (c_level hx 4 _ (by omega) (by omega) (h1.1 26 b) 0 0 (by omega) (by omega)) rfl hs, ?_⟩
    rw [hT, ← pRl_eq, show pRl (rdT (h.1 34 0) n) (rdn n) 40 4 0 = rdR (h.1 34 0) n from rfl]
    rintro v h' ⟨rfl, g', m', rfl, hc⟩
    have hran : (rdR (h.1 34 0) n).1 ≤ 40 := (ran_Rl (T := rdT (h.1 34 0) n) (n := rdn n) (L := 40) 4 0 (by omega)).2.1
    have tx := rH_Tx (b := b) (m := m') (g := g') hx (show (rdR (h.1 34 0) n).1 ≤ 200 by omega)
    have hat : (rH (sX (sX h1 9 0 2 (nI 0)) 9 0 3 (nI 40)) b g' m' (rdR (h.1 34 0) n).1).1 9 0 2 = nI (rdR (h.1 34 0) n).1 := tx.2.1
    have fr : Fr [(9, 0), (34, 0), (6, b), (26, b)] h (rH (sX (sX h1 9 0 2 (nI 0)) 9 0 3 (nI 40)) b g' m' (rdR (h.1 34 0) n).1) := by
      unfold rH sA
      exact Fr.sX (Fr.sX (Fr.sV (Fr.sX (Fr.sX f1 (by simp)) (by simp)) (by simp)) (by simp)) (by simp)
    have frT : (rH (sX (sX h1 9 0 2 (nI 0)) 9 0 3 (nI 40)) b g' m' (rdR (h.1 34 0) n).1).1 34 0 = rdT (h.1 34 0) n := by rw [rH_T, hT]
    refine ⟨fun c => ?_, fun c => ⟨_, c_tended tx, ?_⟩⟩
    · have hN := b2_sN c
      have hO : rdO (h.1 34 0) n = none := by unfold rdO; rw [hN]; split <;> rfl
      have hA : rdA (h.1 34 0) n = nI (rdR (h.1 34 0) n).1 := by unfold rdA; rw [hO]
      refine ⟨?_, fr, frT, fun c hc => ?_⟩
      · rw [hA, ← hat]
      · rw [hO] at hc; cases hc
    · rintro v h' ⟨rfl, rfl⟩
      obtain ⟨c1, hf⟩ := b2_sS c
      obtain ⟨hm, hg⟩ := hc c1 hf
      refine ⟨fun c2 => ?_, fun c2 => ?_⟩
      · have hO : rdO (h.1 34 0) n = none := by unfold rdO; rw [if_neg (of_decide_eq_false (b2_0.mp c2))]
        have hA : rdA (h.1 34 0) n = nI (rdR (h.1 34 0) n).1 := by unfold rdA; rw [hO]
        refine ⟨?_, fr, frT, fun c hc => ?_⟩
        · rw [hA, ← hat]
        · rw [hO] at hc; cases hc
      · have hO : rdO (h.1 34 0) n = some c1 := by unfold rdO; rw [if_pos (of_decide_eq_true (b2_n0.mp c2)), hf]
        have hA : rdA (h.1 34 0) n = -(nI 1) := by unfold rdA; rw [hO]
        refine ⟨by rw [hA], fr, frT, fun c hc => ?_⟩
        rw [hO] at hc
        cases hc
        refine ⟨?_, h1.1 26 b, ?_⟩
        · rw [rH_m, hm, Nat.zero_add]
        · unfold rH sA
          rw [sX_row, if_neg (by simp), sX_row, if_neg (by simp), rdV, if_pos ⟨rfl, rfl⟩, hg]
  refine ct_vc tX6_read [(13, [true, true])] 30 okC kX6_read rfl ?_
  refine ⟨_, c_tisEmpty, ?_⟩
  rintro v h' ⟨rfl, rfl⟩
  refine ⟨fun c => ?_, fun c => ⟨_, c_put, ?_⟩⟩
  · have c2 : ¬ n = 0 := fun z => (of_decide_eq_false (b2_0.mp c)) (by rw [hn, z]; rfl)
    refine E h' Fr.rf ?_ ?_
    · rw [hn]; unfold rdn; rw [if_neg c2]
    · unfold rdT; rw [if_neg c2]
  · rintro v h' rfl
    have c2 : n = 0 := by
      have := of_decide_eq_true (b2_n0.mp c)
      rw [hn] at this
      exact (nI_eq (by omega) (by omega)).mp this
    refine E _ (Fr.sX (Fr.sV Fr.rf (by simp)) (by simp)) ?_ ?_
    · unfold ptH rdn; rw [rdX, if_pos (by simp), if_pos c2]
    · unfold ptH rdT; rw [sX_row, if_neg (by simp), rdV, if_pos (by simp), if_pos c2]
