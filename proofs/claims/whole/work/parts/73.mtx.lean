/-! the reference: texts, sheet, counts -/
theorem byt_sh : ∀ j, j < 4 → ∀ v : Int32, ((v >>> (nI (8 * (3 - j)) &&& 31)).toInt8.toInt32) &&& nI 255 = byt4 v j := by
  intro j hj v
  have hs : (nI (8 * (3 - j)) &&& 31).toBitVec.smod 32 = BitVec.ofNat 32 (8 * (3 - j)) := by
    have : j = 0 ∨ j = 1 ∨ j = 2 ∨ j = 3 := by omega
    rcases this with rfl | rfl | rfl | rfl <;> decide
  have hu : ((nI (24 - 8 * j)).toUInt32 &&& Int32.toUInt32 31).toBitVec % 32 = BitVec.ofNat 32 (24 - 8 * j) := by
    have : j = 0 ∨ j = 1 ∨ j = 2 ∨ j = 3 := by omega
    rcases this with rfl | rfl | rfl | rfl <;> decide
  have n255 : ∀ i, (nI 255).toBitVec.getLsbD i = decide (i < 8) := by
    intro i
    have e : (nI 255).toBitVec = BitVec.ofNat 32 255 := rfl
    rw [e, BitVec.getLsbD_ofNat]
    by_cases c : i < 32
    · have : ∀ i, i < 32 → Nat.testBit 255 i = decide (i < 8) := by decide
      rw [this i c]; simp [c]
    · have : ¬ i < 8 := by omega
      simp [c, this]
  apply Int32.toBitVec_inj.1
  unfold byt4
  rw [Int32.toBitVec_and, Int32.toBitVec_and, Int8.toBitVec_toInt32, Int32.toBitVec_toInt8]
  apply BitVec.eq_of_getLsbD_eq
  intro i hi
  rw [BitVec.getLsbD_and, BitVec.getLsbD_and, n255]
  by_cases c : i < 8
  · rw [decide_eq_true c, Bool.and_true, Bool.and_true]
    have e1 : (BitVec.signExtend 32 (BitVec.signExtend 8 (v >>> (nI (8 * (3 - j)) &&& 31)).toBitVec)).getLsbD i = (v >>> (nI (8 * (3 - j)) &&& 31)).toBitVec.getLsbD i := by
      rw [BitVec.getLsbD_signExtend, BitVec.getLsbD_signExtend]
      simp [c, hi]
    rw [e1]
    have e2 : (v >>> (nI (8 * (3 - j)) &&& 31)).toBitVec = v.toBitVec.sshiftRight (8 * (3 - j)) := by
      rw [Int32.toBitVec_shiftRight]
      show v.toBitVec.sshiftRight ((nI (8 * (3 - j)) &&& 31).toBitVec.smod 32).toNat = _
      rw [hs, BitVec.toNat_ofNat, Nat.mod_eq_of_lt (by omega)]
    have e3 : (v.toUInt32 >>> ((nI (24 - 8 * j)).toUInt32 &&& Int32.toUInt32 31)).toInt32.toBitVec = v.toBitVec >>> (24 - 8 * j) := by
      show (v.toUInt32 >>> ((nI (24 - 8 * j)).toUInt32 &&& Int32.toUInt32 31)).toBitVec = _
      rw [UInt32.toBitVec_shiftRight]
      show v.toBitVec >>> (((nI (24 - 8 * j)).toUInt32 &&& Int32.toUInt32 31).toBitVec % 32) = _
      rw [hu]
      show v.toBitVec >>> (BitVec.ofNat 32 (24 - 8 * j)).toNat = _
      rw [BitVec.toNat_ofNat, Nat.mod_eq_of_lt (by omega)]
    rw [e2, e3, BitVec.getLsbD_sshiftRight, BitVec.getLsbD_ushiftRight, show 24 - 8 * j = 8 * (3 - j) by omega]
    have : ¬ 32 ≤ i := by omega
    by_cases c2 : 8 * (3 - j) + i < 32
    · simp [this, c2]
    · omega
  · rw [decide_eq_false c, Bool.and_false, Bool.and_false]
theorem nar_byte (x : Int32) : vp_nar .byte x = x.toInt8.toInt32 := rfl
theorem byt_k (x : Int8) : bytK x.toInt32 := by
  unfold bytK
  rw [Int8.toInt8_toInt32]
theorem byt_idem {x : Int32} (h : bytK x) : vp_nar .byte x = x := h
theorem m_Sign {B k : Nat} {h : Hp} {g : GS} {v : Int32} (a : MI B h g) (z : Sz g) : Ct alM mX12_sign k [vR 12 0, vI v] h (fun x h' => x = vI (aSign g) ∧ MI B h' (nSign g v)) := by
  have hn := z.2.2.1
  have a0 := a.fld (j := 10) (x := nI 0) (by decide)
  obtain ⟨h0, hh0⟩ : ∃ h0, sX h 12 0 10 (nI 0) = h0 := ⟨_, rfl⟩
  rw [hh0] at a0
  have e7 : h0.1 12 0 7 = nI (gTn g) := a0.2.2.2.1.1
  refine ct_vc tX12_sign [(5, [true, true, false])] 40 okM kX12_sign rfl ?_
  show WP alM mX12_sign k _ 5 [some (vR 12 0), some (vI v), none] [] (sX h 12 0 10 (nI 0))
  rw [hh0]
  refine wp_at tX12_sign [(20, [true, true, true])] 40 5 okM kX12_sign ?_
  unfold aSign nSign
  refine ⟨fun c => ?_, fun c => ?_⟩
  · have c' : gTn g + 4 ≤ 80 := by
      have c2 : h0.1 12 0 7 + nI 4 ≤ nI 80 := c
      rw [e7, nI_add] at c2
      exact (nI_leI (by omega) (by omega)).mp c2
    rw [if_pos c', if_pos c']
    let bF : Nat → Nat → Int32 := fun t x => if gTn g ≤ x ∧ x < gTn g + t then ((v >>> (nI (8 * (3 - (x - gTn g))) &&& 31)).toInt8.toInt32) else h0.1 43 0 x
    have kF : ∀ t, t ≤ 4 → WP alM mX12_sign k (fun x h' => x = vI (nI (gTn g + 4)) ∧ MI B h' (uT g (gTn g + 4, appF (gT g) (gTn g) v 4))) 20 [some (vR 12 0), some (vI v), some (vI (nI 3 - nI t))] [] (sX (sV h0 43 0 (bF t)) 12 0 7 (nI (gTn g + t))) := by
      refine loop_up 4 ?_ (fun t ht ih => ?_)
      · refine wp_at tX12_sign [] 20 20 okM kX12_sign ⟨fun _ => ⟨?_, ?_⟩, fun c => absurd (show nI 3 - nI 4 < 0 by decide) c⟩
        · show vI ((sX (sV h0 43 0 (bF 4)) 12 0 7 (nI (gTn g + 4))).1 12 0 7) = _
          rw [rdX, if_pos (by simp)]
        · have r43 : (sX (sV h0 43 0 (bF 4)) 12 0 7 (nI (gTn g + 4))).1 43 0 = bF 4 := by rw [sX_row, if_neg (by simp), sV_same]
          refine a0.with (S := [(43, 0)]) (F := [7]) (fun k i n n2 => ?_) (fun j n => ?_) ⟨rfl, rfl⟩ (Or.inl ⟨by decide, by decide, rfl, rfl⟩) (Or.inl ⟨by decide, by decide, rfl⟩) (Or.inl ⟨by decide, by decide, rfl⟩) (Or.inr ⟨?_, fun j => ?_, fun j hj => ?_⟩) (Or.inl ⟨rfl, by decide, rfl⟩) (Or.inl ⟨by decide, by decide, by decide, rfl⟩) (Or.inl ⟨by decide, by decide, rfl⟩) (Or.inl ⟨by decide, by decide, by decide, by decide, rfl⟩) (Or.inl ⟨by decide, by decide, rfl⟩) (Or.inl ⟨by decide, by decide, by decide, rfl⟩)
          · rw [sX_row, if_neg (fun z => n (by rw [z.1, z.2])), rdV, if_neg (fun z => n2 (by rw [z.1, z.2]; simp))]
          · rw [rdX, if_neg (fun z => n (by rw [z.2.2]; simp)), rdV, if_neg (by simp)]
          · rw [rdX, if_pos (by simp)]
          · rw [r43]
            show bytK (if gTn g ≤ j ∧ j < gTn g + 4 then _ else _)
            split
            · exact byt_k _
            · exact a0.2.2.2.1.2.1 j
          · unfold mT
            rw [r43]
            have hj' : j < gTn g + 4 := hj
            show (if gTn g ≤ j ∧ j < gTn g + 4 then _ else _) &&& nI 255 = appF (gT g) (gTn g) v 4 j
            by_cases c3 : gTn g ≤ j
            · rw [if_pos ⟨c3, hj'⟩, byt_sh _ (by omega)]
              have : ∀ t, ∀ q, q < t → appF (gT g) (gTn g) v t (gTn g + q) = byt4 v q := by
                intro t
                induction t with
                | zero => intro q hq; omega
                | succ t iht =>
                  intro q hq
                  rw [appF]
                  by_cases e : q = t
                  · subst e; rw [upd_s]
                  · rw [upd_n (by omega)]; exact iht q (by omega)
              have q := this 4 (j - gTn g) (by omega)
              rw [show gTn g + (j - gTn g) = j by omega] at q
              exact q.symm
            · rw [if_neg (fun q => c3 q.1)]
              have : ∀ t, appF (gT g) (gTn g) v t j = gT g j := by
                intro t
                induction t with
                | zero => rfl
                | succ t iht => rw [appF, upd_n (by omega), iht]
              rw [this]
              exact a0.2.2.2.1.2.2 j (by omega)
      · have nng : ¬ nI 3 - nI t < 0 := by
          have : t = 0 ∨ t = 1 ∨ t = 2 ∨ t = 3 := by omega
          rcases this with rfl | rfl | rfl | rfl <;> decide
        have ek : nI 3 - nI t + -(nI 1) = nI 3 - nI (t + 1) := by
          have : t = 0 ∨ t = 1 ∨ t = 2 ∨ t = 3 := by omega
          rcases this with rfl | rfl | rfl | rfl <;> decide
        have e8 : nI 8 * (nI 3 - nI t) = nI (8 * (3 - t)) := by rw [pk_sub (by omega), nI_mul]
        have q7 : (sX (sV h0 43 0 (bF t)) 12 0 7 (nI (gTn g + t))).1 12 0 7 = nI (gTn g + t) := by rw [rdX, if_pos (by simp)]
        refine wp_at tX12_sign [(20, [true, true, true])] 40 20 okM kX12_sign ⟨fun c => absurd c nng, fun _ => ⟨by rw [q7]; exact ix1 80 (by omega), ?_⟩⟩
        rw [q7, nI_clamp (by omega), nI_add, sX_sX, e8, nar_byte]
        rw [← ek] at ih
        refine wp_h ?_ ih
        have r1 : sX (sX (sV h0 43 0 (bF t)) 12 0 7 (nI (gTn g + t + 1))) 43 0 (gTn g + t) ((v >>> (nI (8 * (3 - t)) &&& 31)).toInt8.toInt32.toInt8.toInt32) = sX (sV h0 43 0 (upd (bF t) (gTn g + t) ((v >>> (nI (8 * (3 - t)) &&& 31)).toInt8.toInt32))) 12 0 7 (nI (gTn g + t + 1)) := by
          rw [Int8.toInt8_toInt32]
          refine hp_eq (fun k i => ?_) rfl
          simp only [sX_row, rdV]
          by_cases c1 : k = 43 ∧ i = 0
          · obtain ⟨rfl, rfl⟩ := c1; simp
          · by_cases c2 : k = 12 ∧ i = 0
            · obtain ⟨rfl, rfl⟩ := c2; simp
            · simp [c1, c2]
        refine Eq.trans r1 ?_
        congr 2
        funext x
        show upd (bF t) (gTn g + t) _ x = bF (t + 1) x
        unfold upd
        by_cases c1 : x = gTn g + t
        · subst c1
          rw [if_pos rfl]
          show _ = if gTn g ≤ gTn g + t ∧ gTn g + t < gTn g + (t + 1) then _ else _
          rw [if_pos (by omega), Nat.add_sub_cancel_left]
        · rw [if_neg c1]
          show (if gTn g ≤ x ∧ x < gTn g + t then _ else _) = if gTn g ≤ x ∧ x < gTn g + (t + 1) then _ else _
          by_cases c2 : gTn g ≤ x ∧ x < gTn g + t
          · rw [if_pos c2, if_pos (by omega)]
          · rw [if_neg c2, if_neg (by omega)]
    have := kF 0 (Nat.zero_le _)
    have e0 : bF 0 = h0.1 43 0 := by funext x; exact if_neg (by omega)
    have e9 : sX h0 12 0 7 (nI (gTn g + 0)) = h0 := sX_same e7
    rw [e0, sV_id, e9] at this
    exact this
  · have c' : ¬ gTn g + 4 ≤ 80 := by
      intro q
      apply c
      show h0.1 12 0 7 + nI 4 ≤ nI 80
      rw [e7, nI_add]
      exact nI_le q (by omega)
    rw [if_neg c', if_neg c']
    exact ⟨rfl, a0⟩
theorem m_End {B k : Nat} {h : Hp} {g : GS} {x : Int32} (a : MI B h g) (z : Sz g) : Ct alM mX12_end (k + 1) [vR 12 0, vI x] h (fun v h' => v = vI (aEnd g x) ∧ MI B h' (nEnd g x)) := by
  have hn := z.2.2.1
  have a0 := a.fld (j := 10) (x := nI 0) (by decide)
  have e7 : (sX h 12 0 10 (nI 0)).1 12 0 7 = nI (gTn g) := a0.2.2.2.1.1
  have ec : inB (nI 0) (nI (gTn g)) x = cutB x (nI (gTn g)) := by
    unfold inB cutB
    congr 1
    show decide (0 ≤ x) = !decide (x < 0)
    by_cases c : x < 0
    · rw [dT c, dF (i_len c)]; rfl
    · rw [dF c, dT (i_nlt c)]; rfl
  refine ct_vc tX12_end [] 40 okM kX12_end rfl ?_
  refine ⟨_, c_min, ?_⟩
  rw [e7, ec]
  rintro v h1 ⟨rfl, rfl⟩
  unfold aEnd nEnd
  refine ⟨fun c => ?_, fun c => ?_⟩
  · have c' := b2_n0.mp c
    obtain ⟨j, hj, rfl⟩ := cutB_get c' hn
    rw [c', if_pos rfl, nI_clamp (by omega)]
    refine ⟨Or.inr rfl, rfl, ?_⟩
    refine a0.with (S := []) (F := [7]) (fun k i n n2 => by rw [sX_row, if_neg (fun z => n (by rw [z.1, z.2]))]) (fun j n => by rw [rdX, if_neg (fun z => n (by rw [z.2.2]; simp))]) ⟨rfl, rfl⟩ (Or.inl ⟨by decide, by decide, rfl, rfl⟩) (Or.inl ⟨by decide, by decide, rfl⟩) (Or.inl ⟨by decide, by decide, rfl⟩) (Or.inr ⟨?_, fun j => ?_, fun q hq => ?_⟩) (Or.inl ⟨rfl, by decide, rfl⟩) (Or.inl ⟨by decide, by decide, by decide, rfl⟩) (Or.inl ⟨by decide, by decide, rfl⟩) (Or.inl ⟨by decide, by decide, by decide, by decide, rfl⟩) (Or.inl ⟨by decide, by decide, rfl⟩) (Or.inl ⟨by decide, by decide, by decide, rfl⟩)
    · rw [rdX, if_pos (by simp)]
    · rw [sX_row, if_neg (by simp)]; exact a0.2.2.2.1.2.1 j
    · rw [mT_f]
      have hq' : q < j := hq
      exact a0.2.2.2.1.2.2 q (by omega)
  · have c' := b2_0.mp (nn c)
    rw [c', if_neg (by decide)]
    exact ⟨Or.inl rfl, rfl, a0⟩
