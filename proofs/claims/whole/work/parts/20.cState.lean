/-! class State: cells by their places -/
theorem c_favour {k i j : Nat} {h : Hp} (hj : j < 8) : Ct alC mX8_favour k [vR 8 i, vI (nI j)] h (Rd h (h.1 33 i j)) := by
  refine ct_vc tX8_favour [] 20 okC kX8_favour rfl ?_
  refine ⟨ixN 47 (by omega), ?_, rfl⟩
  rw [ixC (by omega), Nat.zero_add]
theorem c_hurt {k i j : Nat} {h : Hp} (hj : j < 8) : Ct alC mX8_hurt k [vR 8 i, vI (nI j)] h (Rd h (h.1 33 i (8 + j))) := by
  refine ct_vc tX8_hurt [] 20 okC kX8_hurt rfl ?_
  refine ⟨ixN 47 (by omega), ?_, rfl⟩
  rw [ixC (by omega)]
theorem c_fought {k i j : Nat} {h : Hp} (hj : j < 8) : Ct alC mX8_fought k [vR 8 i, vI (nI j)] h (Rd h (h.1 33 i (16 + j))) := by
  refine ct_vc tX8_fought [] 20 okC kX8_fought rfl ?_
  refine ⟨ixN 47 (by omega), ?_, rfl⟩
  rw [ixC (by omega)]
theorem c_won {k i j : Nat} {h : Hp} (hj : j < 8) : Ct alC mX8_won k [vR 8 i, vI (nI j)] h (Rd h (h.1 33 i (24 + j))) := by
  refine ct_vc tX8_won [] 20 okC kX8_won rfl ?_
  refine ⟨ixN 47 (by omega), ?_, rfl⟩
  rw [ixC (by omega)]
theorem c_fate {k i j : Nat} {h : Hp} (hj : j < 8) : Ct alC mX8_fate k [vR 8 i, vI (nI j)] h (Rd h (h.1 33 i (32 + j))) := by
  refine ct_vc tX8_fate [] 20 okC kX8_fate rfl ?_
  refine ⟨ixN 47 (by omega), ?_, rfl⟩
  rw [ixC (by omega)]
theorem c_means {k i : Nat} {h : Hp} : Ct alC mX8_means k [vR 8 i] h (Rd h (h.1 33 i 45)) := by
  refine ct_vc tX8_means [] 20 okC kX8_means rfl ?_
  exact ⟨ix1 47 (by omega), rfl, rfl⟩
theorem c_isHere {k i j : Nat} {h : Hp} (hj : j < 8) : Ct alC mX8_isHere (k + 1) [vR 8 i, vI (nI j)] h (Rd h (b2 (decide (h.1 33 i (32 + j) = 0)))) := by
  refine ct_vc tX8_isHere [] 20 okC kX8_isHere rfl ?_
  refine ⟨_, c_fate hj, ?_⟩
  rintro v h' ⟨rfl, rfl⟩
  exact ⟨fun c => ⟨Or.inl rfl, bF (dF c), rfl⟩, fun c => ⟨Or.inr rfl, bT (dT (nn c)), rfl⟩⟩
theorem c_isDead {k i j : Nat} {h : Hp} (hj : j < 8) : Ct alC mX8_isDead (k + 1) [vR 8 i, vI (nI j)] h (Rd h (b2 (decide (h.1 33 i (32 + j) = nI 1)))) := by
  refine ct_vc tX8_isDead [] 20 okC kX8_isDead rfl ?_
  refine ⟨_, c_fate hj, ?_⟩
  rintro v h' ⟨rfl, rfl⟩
  exact ⟨fun c => ⟨Or.inl rfl, bF (dF c), rfl⟩, fun c => ⟨Or.inr rfl, bT (dT (nn c)), rfl⟩⟩
/-- can fight: HERE and HURT below 9 -/
def canF (s : Nat → Int32) (j : Nat) : Bool := decide (s (32 + j) = 0) && decide (s (8 + j) < nI 9)
theorem c_canFight {k i j : Nat} {h : Hp} (hj : j < 8) : Ct alC mX8_canFight (k + 2) [vR 8 i, vI (nI j)] h (Rd h (b2 (canF (h.1 33 i) j))) := by
  refine ct_vc tX8_canFight [] 20 okC kX8_canFight rfl ?_
  refine ⟨_, c_isHere hj, ?_⟩
  rintro v h' ⟨rfl, rfl⟩
  refine ⟨fun c => ⟨Or.inl rfl, bF (by unfold canF; rw [b2_0.mp c]; rfl), rfl⟩, fun c1 => ⟨_, c_hurt hj, ?_⟩⟩
  rintro v h' ⟨rfl, rfl⟩
  exact ⟨fun c => ⟨Or.inl rfl, bF (by unfold canF; rw [b2_n0.mp c1, dF (i_ltn c)]; rfl), rfl⟩, fun c => ⟨Or.inr rfl, bT (by unfold canF; rw [b2_n0.mp c1, dT (i_nle c)]; rfl), rfl⟩⟩
theorem c_take {k i i2 : Nat} {h : Hp} : Ct alC mX8_take (k + 1) [vR 8 i, vR 8 i2] h (Rv (sV h 33 i (h.1 33 i2))) := by
  refine ct_vc tX8_take [(15, [])] 20 okC kX8_take rfl ?_
  refine ⟨by decide, by decide, by decide, (by decide : (nI 0).toNatClampNeg + (nI 47).toNatClampNeg ≤ 47), (by decide : (nI 0).toNatClampNeg + (nI 47).toNatClampNeg ≤ 47), ?_⟩
  refine wp_eqv (h' := sV h 33 i (h.1 33 i2)) (eqv_V (q := (0, 47, 0, 0, 0, 0)) rfl (fun j hj => ?_)) (wp_at tX8_take [] 5 15 okC kX8_take rfl)
  have e0 : (nI 0).toNatClampNeg = 0 := by decide
  rw [e0]
  exact (pk_cpy_in (Nat.zero_le _) (by rw [Nat.zero_add]; exact hj)).trans (by rw [Nat.sub_zero, Nat.zero_add])
/-- a fighter comes -/
def entF (s : Nat → Int32) (j : Nat) (fv : Int32) : Nat → Int32 := upd (upd (upd (upd (upd s j fv) (8 + j) (nI 0)) (16 + j) (nI 0)) (24 + j) (nI 0)) (32 + j) (nI 0)
theorem c_enter {k i j : Nat} {h : Hp} {fv : Int32} (hj : j < 8) : Ct alC mX8_enter k [vR 8 i, vI (nI j), vI fv] h (Rv (sV h 33 i (entF (h.1 33 i) j fv))) := by
  refine ct_vc tX8_enter [] 60 okC kX8_enter rfl ?_
  refine ⟨ixN 47 (by omega), ixN 47 (by omega), ixN 47 (by omega), ixN 47 (by omega), ixN 47 (by omega), ?_⟩
  simp only [ixC (show 0 + j < 2 ^ 31 by omega), ixC (show 8 + j < 2 ^ 31 by omega), ixC (show 16 + j < 2 ^ 31 by omega), ixC (show 24 + j < 2 ^ 31 by omega), ixC (show 32 + j < 2 ^ 31 by omega), Nat.zero_add]
  unfold entF
  rw [sX_eq (h := h), sV_sX, sV_sX, sV_sX, sV_sX]
  exact rfl
def likF (s : Nat → Int32) (j : Nat) (m : Int32) : Nat → Int32 := upd s j (clampN (nI 0) (nI 99) (s j + m))
theorem c_like {k i j : Nat} {h : Hp} {m : Int32} (hj : j < 8) : Ct alC mX8_like (k + 1) [vR 8 i, vI (nI j), vI m] h (Rv (sV h 33 i (likF (h.1 33 i) j m))) := by
  refine ct_vc tX8_like [] 60 okC kX8_like rfl ?_
  refine ⟨_, c_favour hj, ?_⟩
  rintro v h' ⟨rfl, rfl⟩
  refine ⟨ixN 47 (by omega), ?_⟩
  rw [ixC (by omega), Nat.zero_add]
  rfl
def payF (s : Nat → Int32) (o : Nat) (x : Int32) : Nat → Int32 := upd (upd s 45 (s 45 - x)) (40 + o) (upd s 45 (s 45 - x) (40 + o) + x)
theorem c_pay {k i o : Nat} {h : Hp} {x : Int32} (ho : o < 4) : Ct alC mX8_pay k [vR 8 i, vI (nI o), vI x] h (Rv (sV h 33 i (payF (h.1 33 i) o x))) := by
  refine ct_vc tX8_pay [] 60 okC kX8_pay rfl ?_
  refine ⟨ix1 47 (by omega), ix1 47 (by omega), ixN 47 (by omega), ixN 47 (by omega), ?_⟩
  simp only [ixC (show 40 + o < 2 ^ 31 by omega), nI_clamp (show 45 < 2 ^ 31 by omega)]
  rw [sX_eq (h := h), sV_sX, sV_same]
  rfl
/-- who is of that fate -/
def btF (s : Nat → Int32) (ft : Int32) (n : Nat) : Int32 := orF (fun j => if s (32 + j) = ft then bit j else nI 0) n
theorem c_bits {k i n : Nat} {h : Hp} {ft : Int32} (hn : n ≤ 8) : Ct alC mX8_bits (k + 1) [vR 8 i, vI ft, vI (nI n)] h (Rd h (btF (h.1 33 i) ft n)) := by
  have L : ∀ t, t ≤ n → WP alC mX8_bits (k + 1) (Rd h (btF (h.1 33 i) ft n)) 5 [some (vR 8 i), some (vI ft), some (vI (nI n)), some (vI (btF (h.1 33 i) ft t)), some (vI (nI t))] [] h := by
    refine loop_up n ?_ (fun t ht ih => ?_)
    · exact wp_at tX8_bits [(5, [true, true, true, true, true])] 20 5 okC kX8_bits ⟨fun _ => ⟨rfl, rfl⟩, fun c => absurd (nI_le (Nat.le_refl n) (by omega)) c⟩
    · refine wp_at tX8_bits [(5, [true, true, true, true, true])] 40 5 okC kX8_bits ⟨fun c => absurd c (nI_ge ht (by omega)), fun _ => ⟨_, c_fate (by omega), ?_⟩⟩
      rintro v h' ⟨rfl, rfl⟩
      unfold btF at ih ⊢
      rw [orF, ← nI_add t 1] at ih
      refine ⟨fun c => ?_, fun c => ?_⟩
      · rw [if_neg c] at ih; exact ih
      · rw [if_pos (nn c)] at ih; exact ih
  exact ct_vc tX8_bits [(5, [true, true, true, true, true])] 20 okC kX8_bits rfl (L 0 (Nat.zero_le n))
/-- FAVOUR of a set of fighters -/
def fvF (s : Nat → Int32) (set : Int32) (n : Nat) : Int32 := smF (fun j => ((set >>> (nI j &&& 31)) &&& nI 1) * s j) n
theorem c_favourOf {k i : Nat} {h : Hp} {set : Int32} : Ct alC mX8_favourOf (k + 1) [vR 8 i, vI set] h (Rd h (fvF (h.1 33 i) set 8)) := by
  have L : ∀ t, t ≤ 8 → WP alC mX8_favourOf (k + 1) (Rd h (fvF (h.1 33 i) set 8)) 4 [some (vR 8 i), some (vI set), some (vI (fvF (h.1 33 i) set t)), some (vI (nI t))] [] h := by
    refine loop_up 8 ?_ (fun t ht ih => ?_)
    · exact wp_at tX8_favourOf [(4, [true, true, true, true])] 20 4 okC kX8_favourOf ⟨fun _ => ⟨rfl, rfl⟩, fun c => absurd (nI_le (Nat.le_refl 8) (by omega)) c⟩
    · refine wp_at tX8_favourOf [(4, [true, true, true, true])] 40 4 okC kX8_favourOf ⟨fun c => absurd c (nI_ge ht (by omega)), fun _ => ⟨_, c_favour (by omega), ?_⟩⟩
      rintro v h' ⟨rfl, rfl⟩
      unfold fvF at ih ⊢
      rw [smF, ← nI_add t 1] at ih
      exact ih
  exact ct_vc tX8_favourOf [(4, [true, true, true, true])] 20 okC kX8_favourOf rfl (L 0 (by omega))
