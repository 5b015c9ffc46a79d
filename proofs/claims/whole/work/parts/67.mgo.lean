/-! the reference: what a FIGHT is made of -/
theorem sh_q : ∀ q, q < 16 → (nI q &&& 31).toBitVec.smod 32 = BitVec.ofNat 32 q := by decide
theorem hsB_bv {x : Int32} {q : Nat} (hq : q < 16) : hsB x q = x.toBitVec.getLsbD q := by
  unfold hsB
  have e : ((x >>> (nI q &&& 31)) &&& nI 1).toBitVec = (x.toBitVec.sshiftRight q) &&& 1#32 := by
    rw [Int32.toBitVec_and, Int32.toBitVec_shiftRight]
    show x.toBitVec.sshiftRight ((nI q &&& 31).toBitVec.smod 32).toNat &&& 1#32 = _
    rw [sh_q q hq]
    have : (BitVec.ofNat 32 q).toNat = q := by rw [BitVec.toNat_ofNat]; exact Nat.mod_eq_of_lt (by omega)
    rw [this]
  have k : (x.toBitVec.sshiftRight q).getLsbD 0 = x.toBitVec.getLsbD q := by
    rw [BitVec.getLsbD_sshiftRight]
    have : ¬ 32 ≤ 0 := by decide
    have h2 : q + 0 < 32 := by omega
    simp [h2]
    omega
  cases hb : x.toBitVec.getLsbD q with
  | true =>
    apply decide_eq_true
    apply Int32.toBitVec_inj.1
    rw [e]
    apply BitVec.eq_of_getLsbD_eq
    intro i hi
    rw [BitVec.getLsbD_and]
    by_cases c : i = 0
    · subst c; rw [k, hb]; rfl
    · have : (1#32).getLsbD i = false := by
        rw [BitVec.getLsbD_one]; simp [c]
      rw [this, Bool.and_false]
      exact this.symm
  | false =>
    apply decide_eq_false
    intro w
    have w2 : ((x >>> (nI q &&& 31)) &&& nI 1).toBitVec = 1#32 := by rw [w]; rfl
    rw [e] at w2
    have w3 := congrArg (fun b => BitVec.getLsbD b 0) w2
    rw [BitVec.getLsbD_and, k, hb] at w3
    exact absurd w3 (by decide)
theorem bit_bv : ∀ q, q < 16 → (bit q).toBitVec = BitVec.twoPow 32 q := by decide
theorem and_bit {x : Int32} {q : Nat} (hq : q < 16) : (x &&& bit q = 0) ↔ hsB x q = false := by
  rw [hsB_bv hq]
  constructor
  · intro h
    have h2 : (x &&& bit q).toBitVec = 0#32 := by rw [h]; rfl
    rw [Int32.toBitVec_and, bit_bv q hq] at h2
    have h3 := congrArg (fun b => BitVec.getLsbD b q) h2
    rw [BitVec.getLsbD_and, BitVec.getLsbD_twoPow] at h3
    have : q < 32 := by omega
    simpa [this] using h3
  · intro h
    apply Int32.toBitVec_inj.1
    rw [Int32.toBitVec_and, bit_bv q hq]
    apply BitVec.eq_of_getLsbD_eq
    intro i hi
    rw [BitVec.getLsbD_and, BitVec.getLsbD_twoPow]
    by_cases c : q = i
    · subst c; rw [h]; simp
    · simp [c]
theorem prI_bit : ∀ a, a < 4 → ∀ b, b < 4 → prI (nI a) (nI b) = bit (4 * min a b + max a b) ∧ nI 4 * mnI (nI a) (nI b) + mxI (nI a) (nI b) = nI (4 * min a b + max a b) := by decide
theorem c_likes {k i j : Nat} {h : Hp} {s : Sta} {m : Int32} (hs : h.1 40 i = mS s) (hj : j < 8) : Ct alM mX12_likes (k + 1) [vR 40 i, vI (nI j), vI m] h (Rv (sV h 40 i (mS (likF s j m)))) := by
  refine ct_vc tX12_likes [] 40 okM kX12_likes rfl ?_
  refine ⟨ix1 47 (by omega), ix1 47 (by omega), ?_⟩
  show sX h 40 i (nI j).toNatClampNeg (clampN (nI 0) (nI 99) (h.1 40 i (nI j).toNatClampNeg + m)) = _
  rw [nI_clamp (by omega), sX_eq, hs, mS_lo (by omega), mS_ulo (by omega)]
  rfl
theorem c_pays {k i f a m : Nat} {h : Hp} {g : GS} {s : Sta} (w : Wm h g) (hs : h.1 40 i = mS s) (hf : f < gN g) (ha : a < 1000) (hm : s 45 = nI m) (hm9 : m ≤ 9999) (hp : PPu 50000 s) : Ct alM mX12_pays (k + 1) [vR 12 0, vR 40 i, vI (nI f), vI (nI a)] h (Rv (sV h 40 i (mS (payF s (gR g 3 f).toNatClampNeg (nI (min a m)))))) := by
  obtain ⟨o4, oe⟩ := own4 w.2.2.2.1 hf
  obtain ⟨o, ho⟩ : ∃ o, (gR g 3 f).toNatClampNeg = o := ⟨_, rfl⟩
  rw [ho] at o4 oe ⊢
  have hmin : min a m ≤ 1000 := by have := Nat.min_le_left a m; omega
  have e1 : ∀ x : Int32, sX h 40 i 41 x = sV h 40 i (mS (upd s 45 x)) := fun x => by rw [sX_eq, hs, mS_u41]
  have wf : ∀ x, Wm (sV h 40 i x) g := fun x => w.go (S := [(40, i)]) (F := []) (Fm.rf.sV (by simp) (by decide)) (by simp) (by simp) (by simp) (by simp) (by simp) (by simp) (by simp) (by simp)
  have S19 : WP alM mX12_pays (k + 1) (Rv (sV h 40 i (mS (payF s o (nI (min a m)))))) 19 [some (vR 12 0), some (vR 40 i), some (vI (nI f)), none, some (vI (nI (min a m)))] [] (sV h 40 i (mS (upd s 45 (s 45 - nI (min a m))))) := by
    refine wp_at tX12_pays [] 40 19 okM kX12_pays ⟨_, c_owner (wf _) hf, ?_⟩
    rw [oe]
    rintro v h' ⟨rfl, rfl⟩
    refine ⟨_, c_owner (wf _) hf, ?_⟩
    rw [oe]
    rintro v h' ⟨rfl, rfl⟩
    refine ⟨ixN 47 (by omega), ixN 47 (by omega), ?_⟩
    rw [ixC (by omega), sV_same, mS_pu o4, upd_n (by omega)]
    obtain ⟨p, hp1, hp2⟩ := hp.1 o o4
    rw [hp2, nI_add]
    show sX _ 40 i (42 + o) (if nI (p + min a m) < nI 99999 then nI (p + min a m) else nI 99999) = _
    rw [if_pos (nI_lt (by omega) (by omega)), sV_sX, mS_upu o4]
    congr 2
    unfold payF
    congr 1
    rw [upd_n (by omega), hp2, nI_add]
  refine ct_vc tX12_pays [(19, [true, true, true, false, true])] 40 okM kX12_pays rfl ?_
  refine ⟨ix1 47 (by omega), ?_⟩
  have e41 : h.1 40 i (nI 41).toNatClampNeg = s 45 := by rw [nI_clamp (by omega), hs]; rfl
  rw [e41, hm]
  have emn : (if nI m < nI a then nI m else nI a) = nI (min a m) := mn_nI (by omega) (by omega)
  refine ⟨ix1 47 (by omega), ix1 47 (by omega), ?_⟩
  rw [emn, nI_clamp (by omega), hs, mS_41, e1]
  exact S19
theorem c_pairOf {k one oth : Nat} {h : Hp} {g : GS} (w : Wm h g) (h1 : one < gN g) (h2 : oth < gN g) : Ct alM mX12_pairOf (k + 1) [vR 12 0, vI (nI one), vI (nI oth)] h (Rd h (nI 4 * mnI (gR g 0 one) (gR g 0 oth) + mxI (gR g 0 one) (gR g 0 oth))) := by
  refine ct_vc tX12_pairOf [] 40 okM kX12_pairOf rfl ?_
  refine ⟨_, c_arms w h1, ?_⟩
  rintro v h' ⟨rfl, rfl⟩
  refine ⟨_, c_arms w h2, ?_⟩
  rintro v h' ⟨rfl, rfl⟩
  refine ⟨_, c_arms w h1, ?_⟩
  rintro v h' ⟨rfl, rfl⟩
  refine ⟨_, c_arms w h2, ?_⟩
  rintro v h' ⟨rfl, rfl⟩
  exact ⟨rfl, rfl⟩
theorem c_mcan {k i j : Nat} {h : Hp} {s : Sta} (hs : h.1 40 i = mS s) (hj : j < 8) : Ct alM mX12_canFight k [vR 12 0, vR 40 i, vI (nI j)] h (Rd h (b2 (canF s j))) := by
  refine ct_vc tX12_canFight [] 40 okM kX12_canFight rfl ?_
  refine ⟨ixN 47 (by omega), ?_⟩
  have e1 : h.1 40 i (nI 32 + nI j).toNatClampNeg = s (32 + j) := by rw [ixC (by omega), hs, mS_lo (by omega)]
  have e2 : h.1 40 i (nI 8 + nI j).toNatClampNeg = s (8 + j) := by rw [ixC (by omega), hs, mS_lo (by omega)]
  unfold canF
  refine ⟨fun c => ⟨Or.inl rfl, bF ?_, rfl⟩, fun c => ⟨ixN 47 (by omega), fun c2 => ⟨Or.inl rfl, bF ?_, rfl⟩, fun c2 => ⟨Or.inr rfl, bT ?_, rfl⟩⟩⟩
  · rw [dF (by rw [← e1]; exact c)]; rfl
  · rw [dF (i_ltn (by rw [← e2]; exact c2)), Bool.and_false]
  · rw [dT (by rw [← e1]; exact nn c), dT (i_nle (by rw [← e2]; exact c2))]; rfl
theorem c_areTwo {k n : Nat} {h : Hp} {x y : Int32} (h1 : h.1 12 0 1 = nI n) (hn : n ≤ 8) : Ct alM mX12_areTwo (k + 2) [vR 12 0, vI x, vI y] h (Rd h (b2 (hasN x n && hasN y n && !decide (x = y)))) := by
  refine ct_vc tX12_areTwo [] 40 okM kX12_areTwo rfl ?_
  refine ⟨_, c_isMan h1 hn, ?_⟩
  rintro v h' ⟨rfl, rfl⟩
  refine ⟨fun c => ⟨Or.inl rfl, bF (by rw [b2_0.mp c]; rfl), rfl⟩, fun c => ⟨_, c_isMan h1 hn, ?_⟩⟩
  rintro v h' ⟨rfl, rfl⟩
  refine ⟨fun c2 => ⟨Or.inl rfl, bF (by rw [b2_0.mp c2, Bool.and_false]; rfl), rfl⟩, fun c2 => ⟨fun c3 => ⟨Or.inl rfl, bF (by rw [dT c3]; exact Bool.and_false _), rfl⟩, fun c3 => ⟨Or.inr rfl, bT (by rw [b2_n0.mp c, b2_n0.mp c2, dF c3]; rfl), rfl⟩⟩⟩
theorem c_mrefuse {k i n : Nat} {h : Hp} {s : Sta} {x y : Int32} (h1 : h.1 12 0 1 = nI n) (hn : n ≤ 8) (hs : h.1 40 i = mS s) : Ct alM mX12_refusesFight (k + 3) [vR 12 0, vR 40 i, vI x, vI y] h (Rd h (hnF n s x y)) := by
  refine ct_vc tX12_refusesFight [(29, [false, false, false, false])] 60 okM kX12_refusesFight rfl ?_
  refine ⟨_, c_areTwo h1 hn, ?_⟩
  rintro v h' ⟨rfl, rfl⟩
  unfold hnF
  refine ⟨fun c => ?_, fun c => ?_⟩
  · have c' := b2_n0.mp c
    obtain ⟨q0, q3⟩ := and3 c'
    obtain ⟨q1, q2⟩ := and3 q0
    have q3' : ¬ x = y := by simpa using q3
    rw [if_pos ⟨q1, q2, q3'⟩]
    obtain ⟨a, ha, rfl⟩ := hasN_get q1 (by omega)
    obtain ⟨b, hb, rfl⟩ := hasN_get q2 (by omega)
    rw [nI_clamp (show a < 2 ^ 31 by omega), nI_clamp (show b < 2 ^ 31 by omega)]
    have e1 : h'.1 40 i (nI 32 + nI a).toNatClampNeg = s (32 + a) := by rw [ixC (by omega), hs, mS_lo (by omega)]
    have e2 : h'.1 40 i (nI 32 + nI b).toNatClampNeg = s (32 + b) := by rw [ixC (by omega), hs, mS_lo (by omega)]
    have NO : ¬ (s (32 + a) = 0 ∧ s (32 + b) = 0) → WP alM mX12_refusesFight (k + 3) (Rd h' (if s (32 + a) = 0 ∧ s (32 + b) = 0 then (if canF s a = true ∧ canF s b = true then nI 0 else -(nI 3)) else -(nI 2))) 29 [none, none, none, none] [] h' := by
      intro hno
      rw [if_neg hno]
      exact wp_at tX12_refusesFight [] 10 29 okM kX12_refusesFight ⟨rfl, rfl⟩
    refine ⟨ixN 47 (by omega), fun c2 => NO (fun z => c2 (by rw [e1]; exact z.1)), fun c2 => ⟨ixN 47 (by omega), fun c3 => ?_, fun c3 => NO (fun z => c3 (by rw [e2]; exact z.2))⟩⟩
    have hz : s (32 + a) = 0 ∧ s (32 + b) = 0 := ⟨by rw [← e1]; exact nn c2, by rw [← e2]; exact c3⟩
    rw [if_pos hz]
    refine ⟨_, c_mcan hs (by omega), ?_⟩
    rintro v h2 ⟨rfl, rfl⟩
    refine ⟨fun c4 => ⟨?_, rfl⟩, fun c4 => ⟨_, c_mcan hs (by omega), ?_⟩⟩
    · rw [if_neg (fun z => by rw [z.1] at c4; exact absurd c4 (by decide))]
    · rintro v h2 ⟨rfl, rfl⟩
      refine ⟨fun c5 => ⟨?_, rfl⟩, fun c5 => ⟨?_, rfl⟩⟩
      · rw [if_neg (fun z => by rw [z.2] at c5; exact absurd c5 (by decide))]
      · rw [if_pos ⟨b2_n0.mp c4, b2_n0.mp c5⟩]
  · have c' := b2_0.mp (nn c)
    rw [if_neg (fun z => by rw [z.1, z.2.1, dF z.2.2] at c'; cases c')]
    exact ⟨rfl, rfl⟩
theorem c_goesFree {k i j : Nat} {h : Hp} {g : GS} {s : Sta} (h5 : h.1 12 0 5 = gW g) (hs : h.1 40 i = mS s) (hj : j < 8) (hf : s (32 + j) = nI 0 ∨ s (32 + j) = nI 1) : Ct alM mX12_goesFree k [vR 12 0, vR 40 i, vI (nI j)] h (Rv (sV h 40 i (mS (hsF (gW g) s j)))) := by
  refine ct_vc tX12_goesFree [] 40 okM kX12_goesFree rfl ?_
  have e1 : h.1 40 i (nI 32 + nI j).toNatClampNeg = s (32 + j) := by rw [ixC (by omega), hs, mS_lo (by omega)]
  have e2 : h.1 40 i (nI 16 + nI j).toNatClampNeg = s (16 + j) := by rw [ixC (by omega), hs, mS_lo (by omega)]
  have id : sV h 40 i (mS s) = h := by rw [← hs]; exact sV_id
  unfold hsF
  refine ⟨ixN 47 (by omega), fun c => ?_, fun c => ⟨ixN 47 (by omega), fun c2 => ?_, fun c2 => ⟨ixN 47 (by omega), ?_⟩⟩⟩
  · have c' : ¬ s (32 + j) = 0 := by rw [← e1]; exact c
    rw [if_neg (fun z => hf.elim (fun q => c' q) (fun q => z.1 q)), id]
    rfl
  · have c' : s (16 + j) < gW g := by rw [← e2, ← h5]; exact c2
    rw [if_neg (fun z => (i_len c') z.2), id]
    rfl
  · have c' : s (32 + j) = 0 := by rw [← e1]; exact nn c
    have c3 : gW g ≤ s (16 + j) := by rw [← e2, ← h5]; exact i_nlt c2
    rw [if_pos ⟨by rw [c']; decide, c3⟩]
    show sX h 40 i _ (nI 2) = _
    rw [ixC (by omega), sX_eq, hs, mS_ulo (by omega)]
theorem c_misNow {k i j v : Nat} {h : Hp} {g : GS} {s : Sta} (w : Wm h g) (hs : h.1 40 i = mS s) (hj : j < 8) (hv : v ≤ 99) (e : s j = nI v) : Ct alM mX12_isSparedNow (k + 3) [vR 12 0, vR 40 i, vI (nI j)] h (Rd h (b2 (spL g (s j)))) := by
  refine ct_vc tX12_isSparedNow [] 40 okM kX12_isSparedNow rfl ?_
  refine ⟨ix1 47 (by omega), _, c_misSpared w (a := 0) (hm := 0) (by omega) (by omega), ?_⟩
  rintro x h' ⟨rfl, rfl⟩
  rw [nI_clamp (by omega), hs, mS_lo (by omega), e, ← spL_eq w.2.2.2.2.2.1 w.2.2.2.2.2.2.2.1 hv]
  exact ⟨b2_01 _, rfl, rfl⟩
