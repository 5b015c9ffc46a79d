/-! class Lines: columns and count -/
theorem nI_0' : nI 0 = 0 := rfl
/-- x is one of the first n -/
def hasN (x : Int32) (n : Nat) : Bool := decide (0 ≤ x) && decide (x < nI n)
theorem hasN_get {x : Int32} {n : Nat} (h : hasN x n = true) (hn : n < 2 ^ 31) : ∃ j, j < n ∧ x = nI j := by
  unfold hasN at h
  obtain ⟨h1, h2⟩ := and3 h
  have h1 := of_decide_eq_true h1
  have h2 := of_decide_eq_true h2
  obtain ⟨j, hj, rfl⟩ := nI_of (i_ltn h1)
  rw [nI_ltI hj hn] at h2
  exact ⟨j, h2, rfl⟩
theorem hasN_nI {j n : Nat} (hj : j < n) (hn : n < 2 ^ 31) : hasN (nI j) n = true := by
  unfold hasN
  rw [dT (show (0 : Int32) ≤ nI j from nI_pos' (by omega)), dT (nI_lt hj hn)]
  rfl
theorem c_has {k q n : Nat} {h : Hp} {x : Int32} (hc : h.1 3 q 3 = nI n) : Ct alC mX3_has k [vR 3 q, vI x] h (Rd h (b2 (hasN x n))) := by
  refine ct_vc tX3_has [] 20 okC kX3_has rfl ?_
  refine ⟨fun c => ⟨Or.inl rfl, bF ?_, rfl⟩, fun c => ⟨fun c2 => ⟨Or.inl rfl, bF ?_, rfl⟩, fun c2 => ⟨Or.inr rfl, bT ?_, rfl⟩⟩⟩
  · unfold hasN; rw [dF (fun z => (i_ltn z) c)]; rfl
  · rw [hc] at c2
    unfold hasN; rw [dF (i_ltn c2)]; simp
  · rw [hc] at c2
    unfold hasN; rw [dT (i_nlt c), dT (i_nle c2)]; rfl
theorem c_of {k q p j : Nat} {h : Hp} (hp : p < 5) (hj : j < 8) : Ct alC mX3_of k [vR 3 q, vI (nI p), vI (nI j)] h (Rd h (h.1 38 (5 * q + p) j)) := by
  refine ct_vc tX3_of [] 20 okC kX3_of rfl ?_
  refine ⟨ix1 5 hp, ix1 8 hj, ?_, rfl⟩
  rw [nI_clamp (by omega), nI_clamp (by omega)]
/-- the sum of a column over a set -/
def csF (f : Nat → Int32) (set : Int32) (n : Nat) : Int32 := smF (fun j => ((set >>> (nI j &&& 31)) &&& nI 1) * f j) n
theorem c_lsum {k q p n : Nat} {h : Hp} {set : Int32} (hc : h.1 3 q 3 = nI n) (hn : n ≤ 8) (hp : p < 5) : Ct alC mX3_sum k [vR 3 q, vI (nI p), vI set] h (Rd h (csF (h.1 38 (5 * q + p)) set n)) := by
  have L : ∀ t, t ≤ n → WP alC mX3_sum k (Rd h (csF (h.1 38 (5 * q + p)) set n)) 5 [some (vR 3 q), some (vI (nI p)), some (vI set), some (vI (csF (h.1 38 (5 * q + p)) set t)), some (vI (nI t))] [] h := by
    refine loop_up n ?_ (fun t ht ih => ?_)
    · exact wp_at tX3_sum [(5, [true, true, true, true, true])] 20 5 okC kX3_sum ⟨fun _ => ⟨rfl, rfl⟩, fun c => absurd (by rw [hc]; exact nI_le (Nat.le_refl n) (by omega)) c⟩
    · refine wp_at tX3_sum [(5, [true, true, true, true, true])] 40 5 okC kX3_sum ⟨fun c => absurd c (by rw [hc]; exact nI_ge ht (by omega)), fun _ => ⟨ix1 5 hp, ix1 8 (by omega), ?_⟩⟩
      unfold csF at ih ⊢
      rw [smF, ← nI_add t 1] at ih
      rw [nI_clamp (by omega), nI_clamp (by omega)]
      exact ih
  exact ct_vc tX3_sum [(5, [true, true, true, true, true])] 20 okC kX3_sum rfl (L 0 (Nat.zero_le n))
theorem c_lenter {k q : Nat} {h : Hp} : Ct alC mX3_enter k [vR 3 q] h (Rt (h.1 3 q 4) (sX h 3 q 3 (h.1 3 q 3 + h.1 3 q 4))) := by
  refine ct_vc tX3_enter [] 20 okC kX3_enter rfl ?_
  refine ⟨?_, rfl⟩
  rw [rdX]
  simp
