/-! the reference: freeing, FIGHT, undone, kept -/
theorem c_refFree {k : Nat} {h : Hp} {g : GS} {x : Int32} (w : Wm h g) (hs : h.1 40 0 = mS (gS g)) : Ct alM mX12_refusesFree (k + 2) [vR 12 0, vI x] h (Rd h (bfA (gR g) (gN g) (gS g) x)) := by
  have hn := w.2.1
  refine ct_vc tX12_refusesFree [] 60 okM kX12_refusesFree rfl ?_
  refine ⟨_, c_isMan w.1 hn, ?_⟩
  rintro v h' ⟨rfl, rfl⟩
  unfold bfA
  refine ⟨fun c => ?_, fun c => ?_⟩
  · have q1 := b2_n0.mp c
    rw [if_pos q1]
    obtain ⟨j, hj, rfl⟩ := hasN_get q1 (by omega)
    rw [nI_clamp (show j < 2 ^ 31 by omega)]
    have e1 : h'.1 40 0 (nI 32 + nI j).toNatClampNeg = gS g (32 + j) := by rw [ixC (by omega), hs, mS_lo (by omega)]
    obtain ⟨o4, oe⟩ := own4 w.2.2.2.1 hj
    refine ⟨ixN 47 (by omega), fun c2 => ⟨_, c_owner w hj, ?_⟩, fun c2 => ⟨?_, rfl⟩⟩
    · rw [if_pos (show gS g (32 + j) = 0 by rw [← e1]; exact c2), oe]
      rintro v h2 ⟨rfl, rfl⟩
      refine ⟨ixN 47 (by omega), _, c_mhire w hj, ?_⟩
      rintro v h2 ⟨rfl, rfl⟩
      rw [ixC (by omega), hs, mS_pu o4, nI_clamp (show (gR g 3 j).toNatClampNeg < 2 ^ 31 by omega)]
      exact ⟨fun c4 => ⟨by rw [if_pos c4], rfl⟩, fun c4 => ⟨by rw [if_neg c4], rfl⟩⟩
    · rw [if_neg (fun q => c2 (by rw [e1]; exact q))]
  · rw [if_neg (by rw [b2_0.mp (nn c)]; decide)]
    exact ⟨rfl, rfl⟩
theorem c_goFree {k j : Nat} {h : Hp} {g : GS} {s : Sta} (w : Wm h g) (hs : h.1 40 0 = mS s) (hj : j < gN g) : Ct alM mX12_goFree (k + 1) [vR 12 0, vI (nI j)] h (Rv (sV h 40 0 (mS (bfF (gR g) s j)))) := by
  have hn := w.2.1
  obtain ⟨o4, oe⟩ := own4 w.2.2.2.1 hj
  refine ct_vc tX12_goFree [] 60 okM kX12_goFree rfl ?_
  refine ⟨_, c_owner w hj, ?_⟩
  rw [oe]
  rintro v h2 ⟨rfl, rfl⟩
  refine ⟨ixN 47 (by omega), _, c_mhire w hj, ?_⟩
  rintro v h2 ⟨rfl, rfl⟩
  refine ⟨ixN 47 (by omega), ixN 47 (by omega), ?_⟩
  show sX (sX h2 40 0 (nI 42 + nI (gR g 3 j).toNatClampNeg).toNatClampNeg (h2.1 40 0 (nI 42 + nI (gR g 3 j).toNatClampNeg).toNatClampNeg - nI 20 * gR g 2 j)) 40 0 (nI 32 + nI j).toNatClampNeg (nI 2) = _
  rw [ixC (show 42 + (gR g 3 j).toNatClampNeg < 2 ^ 31 by omega), ixC (show 32 + j < 2 ^ 31 by omega), sX_eq (j := 42 + (gR g 3 j).toNatClampNeg), sV_sX, hs, mS_pu o4, mS_upu o4, mS_ulo (by omega)]
  rfl
theorem bfA_yes {R : Nat → Nat → Int32} {n : Nat} {s : Sta} {x : Int32} (h : bfA R n s x = 0) : hasN x n = true ∧ s (32 + x.toNatClampNeg) = 0 ∧ nI 20 * R 2 x.toNatClampNeg ≤ s (40 + (R 3 x.toNatClampNeg).toNatClampNeg) := by
  unfold bfA at h
  split at h
  next c =>
    split at h
    next c2 =>
      split at h
      next c3 => exact ⟨c, c2, c3⟩
      next => exact absurd h (by decide)
    next => exact absurd h (by decide)
  next => exact absurd h (by decide)
theorem Sz.u {g : GS} {p : List Sta} (z : Sz g) (h : p.length ≤ 12) : Sz (uP g p) := ⟨z.1, z.2.1, z.2.2.1, z.2.2.2.1, h, z.2.2.2.2.2⟩
theorem m_Frees {B D k : Nat} {h : Hp} {g : GS} {x : Int32} (a : MI B h g) (z : Sz g) (y : Inv D g) : Ct alM mX12_frees (k + 4) [vR 12 0, vI x] h (fun v h' => v = vI (aFrees g x) ∧ MI B h' (nFrees g x)) := by
  have hn := z.1
  have a0 := a.fld (j := 10) (x := nI 0) (by decide)
  refine ct_vc tX12_frees [] 40 okM kX12_frees rfl ?_
  refine ⟨_, c_refFree (a0.ww z y) a0.1.1, ?_⟩
  rintro v h1 ⟨rfl, rfl⟩
  unfold aFrees nFrees
  refine ⟨fun c => ⟨_, c_remM a0 z, ?_⟩, fun c => ?_⟩
  · have c' : bfA (gR g) (gN g) (gS g) x = 0 := Classical.byContradiction fun q => absurd (bfA_neg q) (i_ltn c)
    obtain ⟨q1, -⟩ := bfA_yes c'
    rintro v h2 a2
    simp only [if_pos c']
    obtain ⟨j, hj, rfl⟩ := hasN_get q1 (by omega)
    rw [nI_clamp (show j < 2 ^ 31 by omega)]
    have w2 : Wm h2 g := a2.w (g := uP g (pushP (gP g) (gS g))) (z.u (pushP_len z.2.2.2.2.1).1) y.1
    obtain ⟨o4, oe⟩ := own4 w2.2.2.2.1 hj
    refine ⟨_, c_goFree w2 a2.1.1 hj, ?_⟩
    rintro v h3 rfl
    have w3 : Wm (sV h2 40 0 (mS (bfF (gR g) (gS g) j))) g := w2.goF (i := 0) (Fm.rf.row)
    refine ⟨_, c_owner w3 hj, ?_⟩
    rw [oe]
    rintro v h4 ⟨rfl, rfl⟩
    refine ⟨ixN 47 (by omega), ?_, a2.nw⟩
    rw [ixC (by omega), sV_same, mS_pu o4, nI_clamp (by omega)]
  · have c' : ¬ bfA (gR g) (gN g) (gS g) x = 0 := fun q => c (by rw [q]; exact Int32.le_refl _)
    rw [if_neg c', if_neg c']
    exact ⟨rfl, a0⟩
theorem hnF_yes {n : Nat} {s : Sta} {a b : Nat} (hn : n ≤ 8) (h : hnF n s (nI a) (nI b) = 0) (ha : a < 2 ^ 31) (hb : b < 2 ^ 31) : a < n ∧ b < n ∧ a ≠ b ∧ s (32 + a) = 0 ∧ s (32 + b) = 0 := by
  obtain ⟨p, q, hp, hq, hpq, e1, e2⟩ := hnF_in hn h
  have e1' := nI_inj ha (by omega) e1
  have e2' := nI_inj hb (by omega) e2
  subst e1' e2'
  unfold hnF at h
  split at h
  next c =>
    rw [nI_clamp ha, nI_clamp hb] at h
    split at h
    next c2 => exact ⟨hp, hq, hpq, c2.1, c2.2⟩
    next => exact absurd h (by decide)
  next => exact absurd h (by decide)
/-- tells, and what stays -/
theorem c_tellR {B k : Nat} {h : Hp} {g : GS} {x : Int64} (a : MI B h g) (hl : (gL g).length < 16) : Ct alM mX12_tell k [vR 12 0, vL x] h (fun _ h' => MI B h' (uL g (gL g ++ [x])) ∧ (∀ k i, (k, i) ≠ (12, 0) → h'.1 k i = h.1 k i) ∧ (∀ j, j ≠ 9 → h'.1 12 0 j = h.1 12 0 j) ∧ h'.2.2 = h.2.2) := by
  refine ct_post (c_tell a hl) ?_
  rintro v h' ⟨rfl, a1⟩
  refine ⟨a1, fun k i n => ?_, fun j n => ?_, rfl⟩
  · unfold tlH; rw [sX_row, if_neg (fun z => n (by rw [z.1, z.2]))]; rfl
  · unfold tlH; rw [rdX, if_neg (fun z => n z.2.2)]; rfl
theorem m_Fight {B D k : Nat} {h : Hp} {g : GS} {x y : Int32} (a : MI B h g) (z : Sz g) (iv : Inv D g) : Ct alM mX12_fight (k + 321) [vR 12 0, vI x, vI y] h (fun v h' => v = vI (aFight g x y) ∧ MI B h' (nFight g x y)) := by
  have hn := z.1
  have a0 := a.fld (j := 10) (x := nI 0) (by decide)
  refine ct_vc tX12_fight [(60, [true, true, true, false, true])] 60 okM kX12_fight rfl ?_
  refine ⟨_, c_mrefuse a0.n1 hn a0.1.1, ?_⟩
  rintro v h1 ⟨rfl, rfl⟩
  unfold aFight nFight
  refine ⟨fun c => ⟨_, c_remM a0 z, ?_⟩, fun c => ?_⟩
  · have c' : hnF (gN g) (gS g) x y = 0 := Classical.byContradiction fun q => absurd (hnF_neg q) (i_ltn c)
    simp only [if_pos c']
    obtain ⟨p, q, hp, hq, hpq, rfl, rfl⟩ := hnF_in hn c'
    rw [nI_clamp (show p < 2 ^ 31 by omega), nI_clamp (show q < 2 ^ 31 by omega)]
    obtain ⟨-, -, -, f1, f2⟩ := hnF_yes hn c' (by omega) (by omega)
    rintro v h2 a2
    have w2 : Wm h2 g := a2.w (g := uP g (pushP (gP g) (gS g))) (z.u (pushP_len z.2.2.2.2.1).1) iv.1
    refine ⟨_, c_goFight w2 a2.1.1 hp hq hpq iv.pi f1 f2, ?_⟩
    rintro v h3 ⟨rfl, fm3, e3, d3⟩
    obtain ⟨s', hs'⟩ : ∃ s', mtG g (gS g) p q = s' := ⟨_, rfl⟩
    obtain ⟨wi, hwi⟩ : ∃ wi, wnG g (gS g) p q = wi := ⟨_, rfl⟩
    rw [hs'] at e3 d3 ⊢
    rw [hwi] at d3 ⊢
    have a3 : MI B h3 (uS (uP g (pushP (gP g) (gS g))) s') := a2.now (s := s') fm3 (by simp [goS, scA]) (by simp [goI, scI]) e3
    have a3' : MI B h3 (doG g s') := a3
    have a4 := a3'.clr
    have d4 : (sX h3 12 0 9 (nI 0)).1 12 0 26 = b2 (decide (s' (32 + (p + q - wi)) = nI 1)) := by rw [rdX, if_neg (by simp)]; exact d3
    have REST : ∀ y, (if s' (32 + (p + q - wi)) = nI 1 then lN 1 else lN 0) = y → WP alM mX12_fight (k + 321) (fun v h' => v = vI (nI wi) ∧ MI B h' (uL (doG g s') (rFight g s' p q wi))) 60 [some (vR 12 0), some (vI (nI p)), some (vI (nI q)), none, some (vI (nI wi))] [vL y, vR 12 0] (sX h3 12 0 9 (nI 0)) := by
      intro y hy
      refine wp_at tX12_fight [] 60 60 okM kX12_fight ⟨_, c_tellR a4 (by show (0 : Nat) < 16; decide), ?_⟩
      rintro v h5 ⟨a5, -⟩
      have r5 : h5.1 40 0 = mS s' := a5.1.1
      refine ⟨ix1 47 (by omega), _, c_tellR a5 (by show (1 : Nat) < 16; decide), ?_⟩
      rintro v h6 ⟨a6, -⟩
      have r6 : h6.1 40 0 = mS s' := a6.1.1
      refine ⟨ix1 47 (by omega), _, c_tellR a6 (by show (2 : Nat) < 16; decide), ?_⟩
      rintro v h7 ⟨a7, -⟩
      have r7 : h7.1 40 0 = mS s' := a7.1.1
      refine ⟨ix1 47 (by omega), _, c_tellR a7 (by show (3 : Nat) < 16; decide), ?_⟩
      rintro v h8 ⟨a8, -⟩
      refine ⟨rfl, ?_⟩
      rw [r5, r6, r7, nI_clamp (show p < 2 ^ 31 by omega), nI_clamp (show q < 2 ^ 31 by omega), nI_clamp (by omega), mS_lo (by omega), mS_lo (by omega), mS_41, ← hy] at a8
      exact a8
    refine ⟨fun c5 => REST _ ?_, fun c5 => REST _ ?_⟩
    · have c6 : (sX h3 12 0 9 (nI 0)).1 12 0 26 = 0 := c5
      rw [d4] at c6
      rw [if_neg (of_decide_eq_false (b2_0.mp c6))]
    · have c6 : ¬ (sX h3 12 0 9 (nI 0)).1 12 0 26 = 0 := c5
      rw [d4] at c6
      rw [if_pos (of_decide_eq_true (b2_n0.mp c6))]
  · have c' : ¬ hnF (gN g) (gS g) x y = 0 := fun q => c (by rw [q]; exact Int32.le_refl _)
    rw [if_neg c', if_neg c']
    exact ⟨rfl, a0⟩
theorem m_Undo {B k : Nat} {h : Hp} {g : GS} (a : MI B h g) (z : Sz g) : Ct alM mX12_undo k [vR 12 0] h (fun v h' => v = vI (aUndo g) ∧ MI B h' (nUndo g)) := by
  have hl := z.2.2.2.2.1
  have a0 := a.fld (j := 10) (x := nI 0) (by decide)
  have e23 : (sX h 12 0 10 (nI 0)).1 12 0 23 = nI (gP g).length := a0.2.2.2.2.2.2.1.1
  refine ct_vc tX12_undo [(26, [true, true])] 40 okM kX12_undo rfl ?_
  unfold aUndo nUndo
  rcases List.eq_nil_or_concat (gP g) with hp | ⟨l, s, hp⟩
  · have c' : (gP g).length = 0 := by rw [hp]; rfl
    refine ⟨fun c => absurd (by rw [e23, c']; rfl) c, fun c => ?_⟩
    rw [if_pos c', hp]
    exact ⟨rfl, a0⟩
  · have hp : gP g = l ++ [s] := by rw [hp]; exact List.concat_eq_append
    have hm : (gP g).length = l.length + 1 := by rw [hp, List.length_append]; rfl
    have hlast : (gP g).getLast? = some s := by rw [hp]; exact List.getLast?_concat
    have hdrop : (gP g).dropLast = l := by rw [hp]; exact List.dropLast_concat
    rw [if_neg (by omega), hlast]
    dsimp only
    rw [hdrop, hm, Nat.add_sub_cancel]
    refine ⟨fun c => ?_, fun c => absurd (nn c) (by rw [e23]; exact nI_ne0 (by omega) (by omega))⟩
    obtain ⟨H, hH⟩ : ∃ H, H = sX (sX h 12 0 10 (nI 0)) 12 0 23 (nI l.length) := ⟨_, rfl⟩
    have ew : sX (sX h 12 0 10 (nI 0)) 12 0 23 ((sX h 12 0 10 (nI 0)).1 12 0 23 - nI 1) = H := by rw [e23, hm, pk_sub (by omega), Nat.add_sub_cancel, hH]
    have h23 : ∀ f, (sV H 40 0 f).1 12 0 23 = nI l.length := fun f => by rw [rdV, if_neg (by simp), hH, rdX, if_pos (by simp)]
    have fmH : Fm rmS [23] (sX h 12 0 10 (nI 0)) H := by rw [hH]; exact Fm.rf.sF (by simp)
    have aH : MI B H (uP g l) := by
      refine a0.pst fmH ⟨by rw [hH, rdX, if_pos (by simp)], fun j t hj x hx => ?_⟩
      have hj' : l[j]? = some t := hj
      rw [hH, sX_row, if_neg (by simp)]
      exact a0.2.2.2.2.2.2.1.2 j t (by rw [hp, List.getElem?_append_left (List.getElem?_eq_some_iff.mp hj').1]; exact hj') x hx
    have eu : ∀ x, x < 47 → H.1 47 0 (47 * l.length + x) = mS s x := by
      intro x hx
      rw [hH, sX_row, if_neg (by simp)]
      exact a0.2.2.2.2.2.2.1.2 l.length s (by rw [hp, List.getElem?_append_right (Nat.le_refl _), Nat.sub_self]; rfl) x hx
    have L : ∀ t, t ≤ 47 → WP alM mX12_undo k (fun v h' => v = vI (nI l.length) ∧ MI B h' (uP (uS g s) l)) 26 [some (vR 12 0), some (vI (nI t))] [] (sV H 40 0 (cpA (H.1 40 0) 0 (mS s) t)) := by
      refine loop_up 47 ?_ (fun t ht ih => ?_)
      · have E : WP alM mX12_undo k (fun v h' => v = vI (nI l.length) ∧ MI B h' (uP (uS g s) l)) 58 [some (vR 12 0), none] [] (sV H 40 0 (mS s)) := by
          refine wp_at tX12_undo [] 20 58 okM kX12_undo ⟨?_, aH.nw⟩
          show vI ((sV H 40 0 (mS s)).1 12 0 23) = _
          rw [h23]
        refine wp_at tX12_undo [(58, [true, false])] 20 26 okM kX12_undo ⟨fun _ => ?_, fun c => absurd (nI_le (Nat.le_refl 47) (by omega)) c⟩
        refine wp_eqv (h' := sV H 40 0 (mS s)) (eqv_V (q := (0, 47, 0, 0, 0, 0)) rfl (fun j hj => ?_)) E
        unfold cpA
        have hj' : j < 47 := hj
        rw [if_pos (by omega), Nat.sub_zero]
      · rw [← nI_add t 1] at ih
        have ei : nI 47 * (sV H 40 0 (cpA (H.1 40 0) 0 (mS s) t)).1 12 0 23 + nI t = nI (47 * l.length + t) := by rw [h23, nI_mul, nI_add]
        refine wp_at tX12_undo [(26, [true, true])] 40 26 okM kX12_undo ⟨fun c => absurd c (nI_ge ht (by omega)), fun _ => ⟨by rw [ei]; exact ix1 564 (by omega), ix1 47 ht, ?_⟩⟩
        rw [ei, nI_clamp (show 47 * l.length + t < 2 ^ 31 by omega), nI_clamp (show t < 2 ^ 31 by omega), rdV, if_neg (by simp), eu t ht, sV_sX]
        have := cpA_s (f := H.1 40 0) (q := 0) (src := mS s) (t := t)
        rw [Nat.zero_add] at this
        rw [this]
        exact ih
    have := L 0 (Nat.zero_le _)
    rw [cpA_0, sV_id, ← ew] at this
    exact this
