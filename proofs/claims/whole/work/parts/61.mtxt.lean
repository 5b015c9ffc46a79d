/-! the reference: small questions, reading a text -/
theorem inB_has {n : Nat} (hn : n ≤ 8) (x : Int32) : inB (nI 0) (nI n - nI 1) x = hasN x n := by
  unfold inB hasN
  rw [show nI 0 = 0 from rfl]
  congr 1
  apply decide_eq_decide.mpr
  rw [Int32.le_iff_toInt_le, Int32.lt_iff_toInt_lt, pk_sub_toInt (by omega) (by omega), nI_toInt (by omega)]
  omega
theorem c_min {k : Nat} {h : Hp} {x lo hi : Int32} : Ct alM mX12_in k [vI x, vI lo, vI hi] h (Rd h (b2 (inB lo hi x))) := by
  refine ct_vc tX12_in [] 30 okM kX12_in rfl ?_
  refine ⟨fun c => ⟨Or.inl rfl, bF ?_, rfl⟩, fun c => ⟨fun c2 => ⟨Or.inl rfl, bF ?_, rfl⟩, fun c2 => ⟨Or.inr rfl, bT (inB_y c c2), rfl⟩⟩⟩
  · exact Bool.eq_false_iff.mpr (inB_1 c)
  · exact Bool.eq_false_iff.mpr (inB_2 c2)
theorem c_mhas {k j : Nat} {h : Hp} {x : Int32} : Ct alM mX12_has k [vI x, vI (nI j)] h (Rd h (b2 (hsB x j))) := by
  refine ct_vc tX12_has [] 30 okM kX12_has rfl ?_
  exact ⟨fun c => ⟨Or.inl rfl, bF (dF c), rfl⟩, fun c => ⟨Or.inr rfl, bT (dT (nn c)), rfl⟩⟩
theorem c_isMan {k n : Nat} {h : Hp} {x : Int32} (h1 : h.1 12 0 1 = nI n) (hn : n ≤ 8) : Ct alM mX12_isMan (k + 1) [vR 12 0, vI x] h (Rd h (b2 (hasN x n))) := by
  refine ct_vc tX12_isMan [] 30 okM kX12_isMan rfl ?_
  refine ⟨_, c_min, ?_⟩
  rw [h1, inB_has hn]
  rintro v h' ⟨rfl, rfl⟩
  exact ⟨b2_01 _, rfl, rfl⟩
theorem n4j {j p : Nat} : nI 4 * nI j + nI p = nI (4 * j + p) := by rw [nI_mul, nI_add]
theorem n3j {j p : Nat} : nI 3 * nI j + nI p = nI (3 * j + p) := by rw [nI_mul, nI_add]
theorem c_arms {k j : Nat} {h : Hp} {g : GS} (w : Wm h g) (hj : j < gN g) : Ct alM mX12_arms k [vR 12 0, vI (nI j)] h (Rd h (gR g 0 j)) := by
  have hn := w.2.1
  refine ct_vc tX12_arms [] 30 okM kX12_arms rfl ⟨?_, ?_, rfl⟩
  · rw [nI_mul]; exact ix1 32 (by omega)
  · rw [nI_mul, nI_clamp (by omega)]; exact congrArg vI (w.2.2.1 j hj 0 (by omega))
theorem c_skill {k j : Nat} {h : Hp} {g : GS} (w : Wm h g) (hj : j < gN g) : Ct alM mX12_skill k [vR 12 0, vI (nI j)] h (Rd h (gR g 1 j)) := by
  have hn := w.2.1
  refine ct_vc tX12_skill [] 30 okM kX12_skill rfl ⟨?_, ?_, rfl⟩
  · rw [n4j]; exact ix1 32 (by omega)
  · rw [n4j, nI_clamp (by omega)]; exact congrArg vI (w.2.2.1 j hj 1 (by omega))
theorem c_mhire {k j : Nat} {h : Hp} {g : GS} (w : Wm h g) (hj : j < gN g) : Ct alM mX12_hire k [vR 12 0, vI (nI j)] h (Rd h (gR g 2 j)) := by
  have hn := w.2.1
  refine ct_vc tX12_hire [] 30 okM kX12_hire rfl ⟨?_, ?_, rfl⟩
  · rw [n4j]; exact ix1 32 (by omega)
  · rw [n4j, nI_clamp (by omega)]; exact congrArg vI (w.2.2.1 j hj 2 (by omega))
theorem c_owner {k j : Nat} {h : Hp} {g : GS} (w : Wm h g) (hj : j < gN g) : Ct alM mX12_owner k [vR 12 0, vI (nI j)] h (Rd h (gR g 3 j)) := by
  have hn := w.2.1
  refine ct_vc tX12_owner [] 30 okM kX12_owner rfl ⟨?_, ?_, rfl⟩
  · rw [n4j]; exact ix1 32 (by omega)
  · rw [n4j, nI_clamp (by omega)]; exact congrArg vI (w.2.2.1 j hj 3 (by omega))
theorem c_tell {B k : Nat} {h : Hp} {g : GS} {x : Int64} (a : MI B h g) (hl : (gL g).length < 16) : Ct alM mX12_tell k [vR 12 0, vL x] h (fun _ h' => h' = tlH h (gL g).length x ∧ MI B h' (uL g (gL g ++ [x]))) := by
  have e9 : h.1 12 0 9 = nI (gL g).length := a.2.2.2.2.1.1
  refine ct_vc tX12_tell [] 30 okM kX12_tell rfl ?_
  refine ⟨by rw [e9]; exact ix1 16 hl, ?_⟩
  have ew : sX (sL h 44 (h.1 12 0 9).toNatClampNeg x) 12 0 9 ((sL h 44 (h.1 12 0 9).toNatClampNeg x).1 12 0 9 + nI 1) = tlH h (gL g).length x := by
    unfold tlH
    rw [rdL, e9, nI_clamp (by omega), nI_add]
  exact ⟨ew, by rw [ew]; exact a.add⟩
theorem c_lost {k : Nat} {h : Hp} : Ct alM mX12_lost k [vR 12 0] h (Rt (nI 0) (sX h 12 0 10 (nI 1))) := ct_vc tX12_lost [] 20 okM kX12_lost rfl ⟨rfl, rfl⟩
/-! reading -/
def TxM (h : Hp) (r n L p : Nat) : Prop := h.2.2 2 = r ∧ r < 3 ∧ h.1 12 0 12 = nI n ∧ h.1 12 0 13 = nI L ∧ h.1 12 0 14 = nI p ∧ h.1 12 0 15 = -(nI 1) ∧ n ≤ (if r = 0 then 80 else 40) ∧ L ≤ 80 ∧ p ≤ 200 ∧ ∀ j, bytK (h.1 43 r j)
abbrev sAM (h : Hp) (p : Nat) : Hp := sX h 12 0 14 (nI p)
theorem mT_f {h : Hp} {r j : Nat} {x : Int32} : mT (sX h 12 0 j x) r = mT h r := mT_cg (by rw [sX_row, if_neg (by simp)])
theorem TxM.at {h : Hp} {r n L p q : Nat} (t : TxM h r n L p) (hq : q ≤ 200) : TxM (sAM h q) r n L q := by
  obtain ⟨t1, t2, t3, t4, t5, t6, t7, t8, t9, t10⟩ := t
  refine ⟨t1, t2, ?_, ?_, ?_, ?_, t7, t8, hq, fun j => ?_⟩
  · rw [rdX, if_neg (by simp)]; exact t3
  · rw [rdX, if_neg (by simp)]; exact t4
  · rw [rdX, if_pos (by simp)]
  · rw [rdX, if_neg (by simp)]; exact t6
  · rw [sX_row, if_neg (by simp)]; exact t10 j
theorem sAM_same {h : Hp} {r n L p : Nat} (t : TxM h r n L p) : sAM h p = h := sX_same t.2.2.2.2.1
theorem aln43 {r : Nat} : aln (2, 80, 40, 0, 0, 0) r = if r = 0 then 80 else 40 := by cases r <;> rfl
theorem c_mhere {k r n L p : Nat} {h : Hp} (t : TxM h r n L p) : Ct alM mX12_here k [vR 12 0] h (Rd h (pk (mT h r) n L p)) := by
  obtain ⟨rfl, t2, t3, t4, t5, t6, t7, t8, t9, t10⟩ := t
  have n80 : n ≤ 80 := by split at t7 <;> omega
  refine ct_vc tX12_here [] 40 okM kX12_here rfl ?_
  have j1 : h.1 12 0 12 ≤ h.1 12 0 14 ↔ n ≤ p := by rw [t3, t5]; exact nI_leI (by omega) (by omega)
  have j2 : h.1 12 0 13 ≤ h.1 12 0 14 ↔ L ≤ p := by rw [t4, t5]; exact nI_leI (by omega) (by omega)
  refine ⟨fun c => ⟨congrArg vI (if_neg (fun w => by have := j1.mp c; omega)).symm, rfl⟩, fun c => ⟨fun c2 => ⟨congrArg vI (if_neg (fun w => by have := j2.mp c2; omega)).symm, rfl⟩, fun c2 => ⟨by omega, ?_⟩⟩⟩
  have p1 : p < n := Classical.byContradiction fun w => c (j1.mpr (by omega))
  have p2 : p < L := Classical.byContradiction fun w => c2 (j2.mpr (by omega))
  have hp : p < aln (2, 80, 40, 0, 0, 0) (h.2.2 2) := by rw [aln43]; omega
  refine ⟨by rw [t5]; exact vp_in_nI hp (by rw [aln43]; split <;> decide), ?_, rfl⟩
  rw [t5, nI_clamp (by omega)]
  unfold pk mT
  rw [if_pos ⟨p1, p2⟩]
theorem c_mfine {k : Nat} {h : Hp} : Ct alM mX12_fine k [vR 12 0] h (Rd h (b2 (decide (h.1 12 0 15 = -(nI 1))))) := by
  refine ct_vc tX12_fine [] 30 okM kX12_fine rfl ?_
  exact ⟨fun c => ⟨Or.inl rfl, bF (dF c), rfl⟩, fun c => ⟨Or.inr rfl, bT (dT (nn c)), rfl⟩⟩
theorem c_mfault {k : Nat} {h : Hp} {x : Int32} : Ct alM mX12_fault (k + 1) [vR 12 0, vI x] h (Rv (if h.1 12 0 15 = -(nI 1) then sX h 12 0 15 x else h)) := by
  refine ct_vc tX12_fault [] 30 okM kX12_fault rfl ?_
  refine ⟨_, c_mfine, ?_⟩
  rintro v h' ⟨rfl, rfl⟩
  refine ⟨fun c => ?_, fun c => ?_⟩
  · rw [if_neg (of_decide_eq_false (b2_0.mp c))]; rfl
  · rw [if_pos (of_decide_eq_true (b2_n0.mp c))]; rfl
theorem c_mpasses {k r n L p : Nat} {h : Hp} {c : Int32} (t : TxM h r n L p) : Ct alM mX12_passes (k + 1) [vR 12 0, vI c] h (Rt (b2 (tkS (mT h r) n L c p).1) (sAM h (tkS (mT h r) n L c p).2)) := by
  refine ct_vc tX12_passes [] 40 okM kX12_passes rfl ?_
  refine ⟨_, c_mfine, ?_⟩
  rintro v h' ⟨rfl, rfl⟩
  have t6 : h'.1 12 0 15 = -(nI 1) := t.2.2.2.2.2.1
  rw [dT t6]
  refine ⟨fun c1 => absurd c1 (by decide), fun _ => ⟨_, c_mhere t, ?_⟩⟩
  rintro v h' ⟨rfl, rfl⟩
  unfold tkS
  refine ⟨fun c2 => ?_, fun c2 => ?_⟩
  · rw [if_pos (show pk (mT h' r) n L p = c from c2)]
    refine ⟨Or.inr rfl, rfl, ?_⟩
    rw [t.2.2.2.2.1, nI_add]
  · rw [if_neg (show ¬ pk (mT h' r) n L p = c from c2)]
    exact ⟨Or.inl rfl, rfl, (sAM_same t).symm⟩
theorem c_mpassesN {k : Nat} {h : Hp} {c : Int32} (t : ¬ h.1 12 0 15 = -(nI 1)) : Ct alM mX12_passes (k + 1) [vR 12 0, vI c] h (Rd h (nI 0)) := by
  refine ct_vc tX12_passes [] 40 okM kX12_passes rfl ?_
  refine ⟨_, c_mfine, ?_⟩
  rintro v h' ⟨rfl, rfl⟩
  rw [dF t]
  exact ⟨fun _ => ⟨Or.inl rfl, rfl, rfl⟩, fun c1 => absurd rfl c1⟩
theorem c_mneed {k r n L p : Nat} {h : Hp} {c : Int32} (t : TxM h r n L p) : Ct alM mX12_need (k + 2) [vR 12 0, vI c] h (Rv (if pk (mT h r) n L p = c then sAM h (p + 1) else sX h 12 0 15 (nI p))) := by
  refine ct_vc tX12_need [] 40 okM kX12_need rfl ?_
  refine ⟨_, c_mpasses t, ?_⟩
  rintro v h' ⟨rfl, rfl⟩
  unfold tkS
  by_cases c1 : pk (mT h r) n L p = c
  · simp only [if_pos c1]
    exact ⟨fun _ => rfl, fun c2 => absurd (nn c2) (by decide)⟩
  · simp only [if_neg c1]
    refine ⟨fun c2 => absurd rfl c2, fun _ => ?_⟩
    rw [sAM_same t]
    refine ⟨_, c_mfault, ?_⟩
    rw [if_pos t.2.2.2.2.2.1, t.2.2.2.2.1]
    rintro v h' rfl
    rfl
theorem c_mneedN {k : Nat} {h : Hp} {c : Int32} (t : ¬ h.1 12 0 15 = -(nI 1)) : Ct alM mX12_need (k + 2) [vR 12 0, vI c] h (Rv h) := by
  refine ct_vc tX12_need [] 40 okM kX12_need rfl ?_
  refine ⟨_, c_mpassesN t, ?_⟩
  rintro v h' ⟨rfl, rfl⟩
  refine ⟨fun c2 => absurd rfl c2, fun _ => ⟨_, c_mfault, ?_⟩⟩
  rw [if_neg t]
  rintro v h' rfl
  rfl
theorem byt_tab : ∀ i, i < 256 → (Int8.ofBitVec (BitVec.ofNat 8 i)).toInt32 &&& nI 255 = nI i ∧ (i < 128 → (Int8.ofBitVec (BitVec.ofNat 8 i)).toInt32 = nI i) := by decide +kernel
theorem byt_of {x : Int32} (hb : bytK x) : ∃ i, i < 256 ∧ x = (Int8.ofBitVec (BitVec.ofNat 8 i)).toInt32 := by
  refine ⟨x.toInt8.toBitVec.toNat, x.toInt8.toBitVec.isLt, ?_⟩
  rw [BitVec.ofNat_toNat, BitVec.setWidth_eq]
  exact hb.symm
theorem byt_and {x : Int32} (hb : bytK x) : ∃ v, v < 256 ∧ x &&& nI 255 = nI v ∧ (v < 128 → x = nI v) := by
  obtain ⟨i, hi, rfl⟩ := byt_of hb
  exact ⟨i, hi, byt_tab i hi⟩
theorem pkR {h : Hp} {r n L p : Nat} (hb : ∀ j, bytK (h.1 43 r j)) : pk (mT h r) n L p = -(nI 1) ∨ ∃ v, v < 256 ∧ pk (mT h r) n L p = nI v ∧ p < n ∧ p < L ∧ (v < 128 → h.1 43 r p = nI v) := by
  unfold pk
  split
  next c =>
    obtain ⟨v, h1, h2, h3⟩ := byt_and (hb p)
    exact Or.inr ⟨v, h1, h2, c.1, c.2, h3⟩
  next => exact Or.inl rfl
/-- oneOf: a sign from a on, of m -/
theorem tkD_in1 {T : Nat → Int32} {n L p a m v : Nat} (h : pk T n L p = nI v) (hv : v < 256) (ha : 48 ≤ a) (ha2 : a < 100) (hm1 : 1 ≤ m) (hm : m < 100) : (a ≤ v ∧ v ≤ a + m - 1 → tkD T n L (nI (a - 48)) (nI (a - 48 + m - 1)) p = (nI (v - 48), p + 1)) ∧ (¬ (a ≤ v ∧ v ≤ a + m - 1) → tkD T n L (nI (a - 48)) (nI (a - 48 + m - 1)) p = (-(nI 1), p)) := by
  unfold tkD
  rw [h]
  constructor
  · intro c
    rw [pk_sub (by omega), if_neg]
    intro w
    rcases w with w | w
    · exact nI_nlt (by omega) (by omega) w
    · exact nI_nlt (by omega) (by omega) w
  · intro c
    rw [if_pos]
    rw [Int32.lt_iff_toInt_lt, Int32.lt_iff_toInt_lt, pk_sub_toInt (by omega) (by omega), nI_toInt (by omega), nI_toInt (by omega)]
    omega
theorem tkD_inN {T : Nat → Int32} {n L p a m : Nat} (h : pk T n L p = -(nI 1)) (ha2 : a < 100) : tkD T n L (nI (a - 48)) (nI (a - 48 + m - 1)) p = (-(nI 1), p) := by
  unfold tkD
  rw [h, if_pos]
  left
  have : -(nI 1) - nI 48 < 0 := by decide
  exact Int32.lt_of_lt_of_le this (nI_pos' (by omega))
def ooD (T : Nat → Int32) (n L a m p : Nat) : Int32 × Nat := tkD T n L (nI (a - 48)) (nI (a - 48 + m - 1)) p
theorem c_moneOf {k r n L p a m : Nat} {h : Hp} (t : TxM h r n L p) (ha : 48 ≤ a) (ha2 : a + m ≤ 60) (hm1 : 1 ≤ m) : Ct alM mX12_oneOf (k + 2) [vR 12 0, vI (nI a), vI (nI m)] h (fun v h' => ((ooD (mT h r) n L a m p).1 = -(nI 1) ∧ v = vI (nI 0) ∧ h' = sX h 12 0 15 (nI p)) ∨ (¬ (ooD (mT h r) n L a m p).1 = -(nI 1) ∧ v = vI ((ooD (mT h r) n L a m p).1 - nI (a - 48)) ∧ h' = sAM h (p + 1) ∧ (ooD (mT h r) n L a m p).2 = p + 1)) := by
  have t0 := t
  obtain ⟨rfl, t2, t3, t4, t5, t6, t7, t8, t9, t10⟩ := t
  have n80 : n ≤ 80 := by split at t7 <;> omega
  refine ct_vc tX12_oneOf [] 60 okM kX12_oneOf rfl ?_
  refine ⟨_, c_mfine, ?_⟩
  rintro v h' ⟨rfl, rfl⟩
  rw [dT t6]
  refine ⟨fun _ => ⟨_, c_mhere t0, ?_⟩, fun c => absurd (nn c) (by decide)⟩
  rintro v h' ⟨rfl, rfl⟩
  refine ⟨_, c_min, ?_⟩
  rintro v h' ⟨rfl, rfl⟩
  rw [nI_add, pk_sub (by omega)]
  unfold ooD
  rcases pkR (n := n) (L := L) (p := p) t10 with e | ⟨v, hv, e, p1, p2, eb⟩
  · have eo := tkD_inN (T := mT h' (h'.2.2 2)) (n := n) (L := L) (p := p) (a := a) (m := m) e (by omega)
    rw [eo, e]
    have : inB (nI a) (nI (a + m - 1)) (-(nI 1)) = false := Bool.eq_false_iff.mpr (inB_1 (Int32.lt_of_lt_of_le (show -(nI 1) < 0 by decide) (nI_pos' (by omega))))
    rw [this]
    refine ⟨fun c => absurd rfl c, fun _ => ⟨_, c_mfault, ?_⟩⟩
    rw [if_pos t6, t5]
    rintro v h2 rfl
    exact Or.inl ⟨rfl, rfl, rfl⟩
  · have eo := tkD_in1 e hv ha (show a < 100 by omega) hm1 (show m < 100 by omega)
    by_cases c : a ≤ v ∧ v ≤ a + m - 1
    · rw [eo.1 c, e]
      have : inB (nI a) (nI (a + m - 1)) (nI v) = true := inB_y (nI_nlt c.1 (by omega)) (nI_nlt c.2 (by omega))
      rw [this]
      refine ⟨fun _ => ?_, fun c => absurd (nn c) (by decide)⟩
      have e14 : (sX h' 12 0 14 (h'.1 12 0 14 + nI 1)).1 12 0 14 = nI (p + 1) := by rw [rdX, if_pos (by simp), t5, nI_add]
      have e2 : (sX h' 12 0 14 (h'.1 12 0 14 + nI 1)).2.2 2 = h'.2.2 2 := rfl
      refine ⟨by show ¬ h'.2.2 2 = 7; omega, ?_⟩
      have hp : p < aln (2, 80, 40, 0, 0, 0) (h'.2.2 2) := by rw [aln43]; omega
      have ei : (sX h' 12 0 14 (h'.1 12 0 14 + nI 1)).1 12 0 14 - nI 1 = nI p := by rw [e14, pk_sub (by omega), Nat.add_sub_cancel]
      refine ⟨by rw [ei]; exact vp_in_nI hp (by rw [aln43]; split <;> decide), Or.inr ⟨?_, ?_, ?_, rfl⟩⟩
      · exact fun w => nI_nm1 (show v - 48 ≤ 100 by omega) w
      · rw [ei, nI_clamp (by omega)]
        show vI ((sX h' 12 0 14 (h'.1 12 0 14 + nI 1)).1 43 (h'.2.2 2) p - nI a) = _
        rw [sX_row, if_neg (by simp), eb (by omega), pk_sub (by omega), pk_sub (by omega)]
        congr 2; omega
      · show sX h' 12 0 14 (h'.1 12 0 14 + nI 1) = _
        rw [t5, nI_add]
    · rw [eo.2 c, e]
      have : inB (nI a) (nI (a + m - 1)) (nI v) = false := by
        apply Bool.eq_false_iff.mpr
        intro w
        have w1 := (nI_leI (by omega) (by omega)).mp (of_decide_eq_true (and3 w).1)
        have w2 := (nI_leI (by omega) (by omega)).mp (of_decide_eq_true (and3 w).2)
        exact c ⟨w1, w2⟩
      rw [this]
      refine ⟨fun c => absurd rfl c, fun _ => ⟨_, c_mfault, ?_⟩⟩
      rw [if_pos t6, t5]
      rintro v h2 rfl
      exact Or.inl ⟨rfl, rfl, rfl⟩
theorem c_moneOfN {k : Nat} {h : Hp} {a m : Int32} (t : ¬ h.1 12 0 15 = -(nI 1)) : Ct alM mX12_oneOf (k + 2) [vR 12 0, vI a, vI m] h (Rd h (nI 0)) := by
  refine ct_vc tX12_oneOf [] 60 okM kX12_oneOf rfl ?_
  refine ⟨_, c_mfine, ?_⟩
  rintro v h' ⟨rfl, rfl⟩
  rw [dF t]
  exact ⟨fun c => absurd rfl c, fun _ => ⟨rfl, rfl⟩⟩
