/-! the reference: a FIGHT -/
theorem PPu.mo {b c : Nat} {s : Sta} (h : PPu b s) (hb : b ≤ c) : PPu c s := ⟨fun o ho => by obtain ⟨p, h1, h2⟩ := h.1 o ho; exact ⟨p, by omega, h2⟩, h.2⟩
theorem py_min {R : Nat → Nat → Int32} {s : Sta} {j a m : Nat} (ha : R 2 j = nI a) (hm : s 45 = nI m) (ha9 : a < 2 ^ 31) (hm9 : m < 2 ^ 31) : pyH R s j = payF s (R 3 j).toNatClampNeg (nI (min a m)) := by
  unfold pyH
  rw [ha, hm, mn_nI hm9 ha9, Nat.min_comm]
theorem wl_cs {g : GS} {s : Sta} {one oth : Nat} : (wnG g s one oth = one ∧ one + oth - wnG g s one oth = oth) ∨ (wnG g s one oth = oth ∧ one + oth - wnG g s one oth = one) := by
  rcases wnF_in (c := gC g) (R := gR g) (s := s) (a := one) (d := oth) with e | e
  · left
    have e' : wnG g s one oth = one := e
    rw [e']; omega
  · right
    have e' : wnG g s one oth = oth := e
    rw [e']; omega
theorem ex_eq {R : Nat → Nat → Int32} {s : Sta} {one oth w l : Nat} {m p : Int32} (h1 : one < 8) (h2 : oth < 8) (hne : one ≠ oth) (hwl : (w = one ∧ l = oth) ∨ (w = oth ∧ l = one)) (hp : prI (R 0 w) (R 0 l) = p) (hm : (if s 44 &&& prI (R 0 w) (R 0 l) = 0 then nI 6 else -(nI 2)) = m) : likF (upd (likF (likF s one m) oth m) 44 (likF (likF s one m) oth m 44 ||| p)) w (nI 4) = exF R s w l := by
  unfold exF
  rw [hm, hp]
  have e44 : likF (likF s one m) oth m 44 = s 44 := by rw [lik_o (by omega), lik_o (by omega)]
  rw [e44]
  have key : upd (likF (likF s one m) oth m) 44 (s 44 ||| p) = likF (likF (upd s 44 (s 44 ||| p)) w m) l m := by
    funext i
    unfold likF
    rcases hwl with ⟨rfl, rfl⟩ | ⟨rfl, rfl⟩
    · by_cases c1 : i = 44
      · subst c1; simp [upd, show ¬ (44 : Nat) = w by omega, show ¬ (44 : Nat) = l by omega]
      · by_cases c2 : i = w
        · subst c2; simp [upd, c1, hne]
        · by_cases c3 : i = l
          · subst c3; simp [upd, c1, c2]
          · simp [upd, c1, c2, c3]
    · by_cases c1 : i = 44
      · subst c1; simp [upd, show ¬ (44 : Nat) = w by omega, show ¬ (44 : Nat) = l by omega]
      · by_cases c2 : i = w
        · subst c2
          have : ¬ i = l := fun z => hne z.symm
          simp [upd, c1, this]
        · by_cases c3 : i = l
          · subst c3; simp [upd, c1, c2]
          · simp [upd, c1, c2, c3]
  rw [key]
def goS (i : Nat) : List Ad := [(40, i), (46, 0)]
def goI : List Nat := [26, 12, 13, 14, 15, 20]
theorem Wm.goF {i : Nat} {h h' : Hp} {g : GS} (w : Wm h g) (f : Fm (goS i) goI h h') : Wm h' g := w.go f (by simp [goS]) (by simp [goS]) (by simp [goS]) (by simp [goS]) (by simp [goI]) (by simp [goI]) (by simp [goI]) (by simp [goI])
theorem Fm.row {i : Nat} {h h' : Hp} {f : Nat → Int32} (a : Fm (goS i) goI h h') : Fm (goS i) goI h (_root_.Jvm.Pilot.@@N@@.sV h' 40 i f) := a.sV (by simp [goS]) (by decide)
theorem c_goFight {k i one oth : Nat} {h : Hp} {g : GS} {s : Sta} (w : Wm h g) (hs : h.1 40 i = mS s) (h1 : one < gN g) (h2 : oth < gN g) (hne : one ≠ oth) (pi : PI (gN g) s) (f1 : s (32 + one) = 0) (f2 : s (32 + oth) = 0) : Ct alM mX12_goFight (k + 320) [vR 12 0, vR 40 i, vI (nI one), vI (nI oth)] h (fun v h' => v = vI (nI (wnG g s one oth)) ∧ Fm (goS i) goI h h' ∧ h'.1 40 i = mS (mtG g s one oth) ∧ h'.1 12 0 26 = b2 (decide (mtG g s one oth (32 + (one + oth - wnG g s one oth)) = nI 1))) := by
  have hn := w.2.1
  have hR := w.2.2.2.1
  obtain ⟨P, hP⟩ : ∃ P : AV → Hp → Prop, P = (fun v h' => v = vI (nI (wnG g s one oth)) ∧ Fm (goS i) goI h h' ∧ h'.1 40 i = mS (mtG g s one oth) ∧ h'.1 12 0 26 = b2 (decide (mtG g s one oth (32 + (one + oth - wnG g s one oth)) = nI 1))) := ⟨_, rfl⟩
  rw [← hP]
  have hbd := bd_le hn pi.1
  obtain ⟨a1, ha1, ha1', ea1⟩ := hire9 hR h1
  obtain ⟨a2, ha2, ha2', ea2⟩ := hire9 hR h2
  -- the states on the way
  obtain ⟨s1, hs1⟩ : ∃ s1, s1 = pyH (gR g) s one := ⟨_, rfl⟩
  obtain ⟨s2, hs2⟩ : ∃ s2, s2 = pyH (gR g) s1 oth := ⟨_, rfl⟩
  have p0 : PPu 4300 s := pi.2.1.mo hbd
  have p1 : PPu 4309 s1 := by rw [hs1]; exact py_ok hR h1 p0
  have p2 : PPu 4318 s2 := by rw [hs2]; exact py_ok hR h2 p1
  obtain ⟨m0, hm0, em0⟩ := p0.2
  obtain ⟨m1, hm1, em1⟩ := p1.2
  obtain ⟨m2, hm2, em2⟩ := p2.2
  have e1 : payF s (gR g 3 one).toNatClampNeg (nI (min a1 m0)) = s1 := by rw [hs1, py_min ea1 em0 (by omega) (by omega)]
  have e2 : payF s1 (gR g 3 oth).toNatClampNeg (nI (min a2 m1)) = s2 := by rw [hs2, py_min ea2 em1 (by omega) (by omega)]
  obtain ⟨wi, hwi⟩ : ∃ wi, wi = wnG g s one oth := ⟨_, rfl⟩
  obtain ⟨lo, hlo⟩ : ∃ lo, lo = one + oth - wnG g s one oth := ⟨_, rfl⟩
  have cs : (wi = one ∧ lo = oth) ∨ (wi = oth ∧ lo = one) := by rw [hwi, hlo]; exact wl_cs
  have wi8 : wi < gN g := by rcases cs with ⟨r, -⟩ | ⟨r, -⟩ <;> omega
  have lo8 : lo < gN g := by rcases cs with ⟨-, r⟩ | ⟨-, r⟩ <;> omega
  obtain ⟨a3, ha3, ha3', ea3⟩ := hire9 hR lo8
  obtain ⟨s3, hs3⟩ : ∃ s3, s3 = exF (gR g) s2 wi lo := ⟨_, rfl⟩
  obtain ⟨s4, hs4⟩ : ∃ s4, s4 = m3F s3 one oth wi lo := ⟨_, rfl⟩
  obtain ⟨s5, hs5⟩ : ∃ s5, s5 = jgF (gR g) (nI (lsG g)) s4 lo := ⟨_, rfl⟩
  have eM : mtG g s one oth = hsF (gW g) (hsF (gW g) s5 one) oth := by
    rw [hs5, hs4, hs3, hs2, hs1, hwi, hlo]; rfl
  have s4o : ∀ j, 32 ≤ j → j < 40 → s4 j = s j := fun j hj1 hj2 => by
    rw [hs4, m3_o (by omega) (by omega) (by omega) (by omega), hs3, ex_o (by omega) (by omega) (by omega), hs2, py_o hR h2 (by omega), hs1, py_o hR h1 (by omega)]
  have z1 : s4 (32 + one) = 0 := by rw [s4o _ (by omega) (by omega)]; exact f1
  have z2 : s4 (32 + oth) = 0 := by rw [s4o _ (by omega) (by omega)]; exact f2
  have zl : s4 (32 + lo) = 0 := by rcases cs with ⟨-, r⟩ | ⟨-, r⟩ <;> rw [r]; exact z2; exact z1
  have o4 := (own4 hR lo8).1
  have s5f : ∀ j, j < 8 → s4 (32 + j) = 0 → s5 (32 + j) = nI 0 ∨ s5 (32 + j) = nI 1 := by
    intro j hj hz
    by_cases c : j = lo
    · subst c
      rw [hs5]
      unfold jgF
      split
      · right; rw [pay_o (by omega) (by omega), upd_s]
      · left; exact hz
    · left; rw [hs5, jg_o (by omega) (by omega) (by omega)]; exact hz
  have s5d : s5 (32 + lo) = nI 1 ↔ jgD (gR g) (nI (lsG g)) s4 lo := by
    rw [hs5]
    unfold jgF jgD
    constructor
    · intro q
      refine Classical.byContradiction fun c => ?_
      rw [if_neg c, zl] at q
      exact absurd q (by decide)
    · intro c
      rw [if_pos c, pay_o (by omega) (by omega), upd_s]
  have fin : mtG g s one oth (32 + lo) = nI 1 ↔ s5 (32 + lo) = nI 1 := by
    rw [eM]
    have hh : ∀ (t : Sta) j, j = lo → (hsF (gW g) t j (32 + lo) = nI 1 ↔ t (32 + lo) = nI 1) := by
      intro t j e
      subst e
      rw [hs_j]
      split
      next c => exact ⟨fun q => absurd q (by decide), fun q => absurd q c.1⟩
      next => exact Iff.rfl
    rcases cs with ⟨-, r⟩ | ⟨-, r⟩
    · rw [hh _ oth r.symm, hs_o (by omega)]
    · rw [hs_o (by omega), hh _ one r.symm]
  -- 233: the wooden sword
  have S233 : ∀ H, Fm (goS i) goI h H → H.1 40 i = mS s5 → H.1 12 0 26 = b2 (decide (jgD (gR g) (nI (lsG g)) s4 lo)) → WP alM mX12_goFight (k + 320) P 233 [some (vR 12 0), some (vR 40 i), some (vI (nI one)), some (vI (nI oth)), some (vI (nI wi)), none, none, none] [] H := by
    intro H fm er ed
    have wH := w.goF fm
    refine wp_at tX12_goFight [] 30 233 okM kX12_goFight ⟨_, c_goesFree wH.2.2.2.2.2.2.2.2.1 er (by omega) (s5f one (by omega) z1), ?_⟩
    rintro v H1 rfl
    have w1 := w.goF (fm.row (f := mS (hsF (gW g) s5 one)))
    have q : hsF (gW g) s5 one (32 + oth) = s5 (32 + oth) := hs_o (by omega)
    refine ⟨_, c_goesFree w1.2.2.2.2.2.2.2.2.1 sV_same (by omega) (by rw [q]; exact s5f oth (by omega) z2), ?_⟩
    rintro v H2 rfl
    rw [hP]
    refine ⟨by rw [hwi], (fm.row).row, ?_, ?_⟩
    · rw [sV_same, eM]
    · rw [rdV, if_neg (by simp), rdV, if_neg (by simp), ed, ← hlo]
      exact congrArg b2 (decide_eq_decide.mpr (s5d.symm.trans fin.symm))
  -- 199: dead or not
  have S199 : ∀ H b, Fm (goS i) goI h H → H.1 40 i = mS s4 → b = decide (jgD (gR g) (nI (lsG g)) s4 lo) → WP alM mX12_goFight (k + 320) P 199 [some (vR 12 0), some (vR 40 i), some (vI (nI one)), some (vI (nI oth)), some (vI (nI wi)), some (vI (nI lo)), none, none] [vI (b2 b), vR 12 0] H := by
    intro H b fm er hb
    have fm1 : Fm (goS i) goI h (sX H 12 0 26 (b2 b)) := fm.sF (by simp [goI])
    have er1 : (sX H 12 0 26 (b2 b)).1 40 i = mS s4 := by rw [sX_row, if_neg (by simp)]; exact er
    have e26 : (sX H 12 0 26 (b2 b)).1 12 0 26 = b2 b := by rw [rdX, if_pos (by simp)]
    refine wp_at tX12_goFight [(233, [true, true, true, true, true, false, false, false])] 40 199 okM kX12_goFight ⟨b2_01 _, ?_⟩
    refine ⟨fun c => ?_, fun c => ?_⟩
    · have c' : b = false := by
        have c2 : (sX H 12 0 26 (b2 b)).1 12 0 26 = 0 := c
        rw [e26] at c2
        exact b2_0.mp c2
      have nd : ¬ jgD (gR g) (nI (lsG g)) s4 lo := by rw [c'] at hb; exact of_decide_eq_false hb.symm
      refine S233 _ fm1 ?_ (by rw [e26, hb])
      rw [er1, hs5]
      unfold jgF
      rw [if_neg nd]
    · have c' : b = true := by
        have c2 : ¬ (sX H 12 0 26 (b2 b)).1 12 0 26 = 0 := c
        rw [e26] at c2
        exact b2_n0.mp c2
      have dd : jgD (gR g) (nI (lsG g)) s4 lo := by rw [c'] at hb; exact of_decide_eq_true hb.symm
      refine ⟨ixN 47 (by omega), ?_⟩
      rw [ixC (by omega)]
      have er2 : sX (sX H 12 0 26 (b2 b)) 40 i (32 + lo) (nI 1) = sV (sX H 12 0 26 (b2 b)) 40 i (mS (upd s4 (32 + lo) (nI 1))) := by rw [sX_eq, er1, mS_ulo (by omega)]
      rw [er2]
      have fm2 := fm1.row (f := mS (upd s4 (32 + lo) (nI 1)))
      refine ⟨_, c_mhire (w.goF fm2) lo8, ?_⟩
      rintro v H3 ⟨rfl, rfl⟩
      have p4 : PPu 4318 (upd s4 (32 + lo) (nI 1)) := by
        have k : ∀ j, 40 ≤ j → j < 44 ∨ j = 45 → upd s4 (32 + lo) (nI 1) j = s2 j := fun j hj hj2 => by
          rw [upd_n (by omega), hs4, m3_o (by omega) (by omega) (by omega) (by omega), hs3, ex_o (by omega) (by omega) (by omega)]
        refine ⟨fun o ho => ?_, ?_⟩
        · rw [k _ (by omega) (by omega)]; exact p2.1 o ho
        · rw [k _ (by omega) (by omega)]; exact p2.2
      obtain ⟨m4, hm4, em4⟩ := p4.2
      have em4' : s4 45 = nI m4 := by rw [← em4, upd_n (by omega)]
      have hpr : 50 * a3 ≤ m4 := by
        have := dd.2
        rw [ea3, em4', nI_mul] at this
        exact (nI_leI (by omega) (by omega)).mp this
      refine ⟨_, ct_cv (c_pays (a := 50 * a3) (w.goF fm2) sV_same lo8 (by omega) em4 hm4 (p4.mo (by omega))) (congrArg (fun x => [vR 12 0, vR 40 i, vI (nI lo), vI x]) (by rw [ea3, nI_mul])) rfl, ?_⟩
      rintro v H4 rfl
      refine S233 _ fm2.row ?_ ?_
      · rw [sV_same, hs5]
        unfold jgF
        rw [if_pos dd, ea3, nI_mul, Nat.min_eq_left hpr]
      · rw [rdV, if_neg (by simp), rdV, if_neg (by simp), e26, hb]
  -- 167: is the loser spared
  have S167 : ∀ H, Fm (goS i) goI h H → H.1 40 i = mS s4 → WP alM mX12_goFight (k + 320) P 167 [some (vR 12 0), some (vR 40 i), some (vI (nI one)), some (vI (nI oth)), some (vI (nI wi)), some (vI (nI lo)), none, none] [] H := by
    intro H fm er
    have wH := w.goF fm
    have hv : ∃ v, v ≤ 99 ∧ s4 lo = nI v := by
      rw [hs4, m3_o (by omega) (by omega) (by omega) (by omega), hs3]
      unfold exF
      by_cases c : lo = wi
      · rw [c]; unfold likF; rw [upd_s]; exact clampN_in _
      · rw [lik_o c]; unfold likF; rw [upd_s]; exact clampN_in _
    obtain ⟨v0, hv0, ev0⟩ := hv
    refine wp_at tX12_goFight [(199, [true, true, true, true, true, true, false, false])] 40 167 okM kX12_goFight ⟨_, c_misNow wH er (by omega) hv0 ev0, ?_⟩
    rintro v H1 ⟨rfl, rfl⟩
    have e45 : H1.1 40 i (nI 41).toNatClampNeg = s4 45 := by rw [nI_clamp (by omega), er]; rfl
    refine ⟨fun c => S199 H1 false fm er ?_, fun c => ⟨ix1 47 (by omega), _, c_mhire wH lo8, ?_⟩⟩
    · refine (dF (fun q => ?_)).symm
      have := b2_n0.mp c
      exact q.1 (of_decide_eq_true this)
    · rintro v H1 ⟨rfl, rfl⟩
      rw [e45]
      have c' : ¬ nI (lsG g) ≤ s4 lo := of_decide_eq_false (b2_0.mp (nn c))
      refine ⟨fun c2 => S199 H1 false fm er (dF (fun q => absurd q.2 (i_len c2))).symm, fun c2 => S199 H1 true fm er (dT ⟨c', i_nlt c2⟩).symm⟩
  -- 115: hurts, fights, wins
  have S156 : ∀ H t, Fm (goS i) goI h H → H.1 40 i = mS t → upd t (24 + wi) (t (24 + wi) + nI 1) = s4 → WP alM mX12_goFight (k + 320) P 156 [some (vR 12 0), some (vR 40 i), some (vI (nI one)), some (vI (nI oth)), some (vI (nI wi)), some (vI (nI lo)), none, none] [] H := by
    intro H t fm er et
    refine wp_at tX12_goFight [(167, [true, true, true, true, true, true, false, false])] 30 156 okM kX12_goFight ⟨ixN 47 (by omega), ixN 47 (by omega), ?_⟩
    rw [ixC (by omega), er, mS_lo (by omega), sX_eq, er, mS_ulo (by omega), et]
    exact S167 _ fm.row sV_same
  have S146 : ∀ H t, Fm (goS i) goI h H → H.1 40 i = mS t → (∀ t', t' = upd t (16 + oth) (t (16 + oth) + nI 1) → upd t' (24 + wi) (t' (24 + wi) + nI 1) = s4) → WP alM mX12_goFight (k + 320) P 146 [some (vR 12 0), some (vR 40 i), some (vI (nI one)), some (vI (nI oth)), some (vI (nI wi)), some (vI (nI lo)), none, none] [] H := by
    intro H t fm er et
    refine wp_at tX12_goFight [(156, [true, true, true, true, true, true, false, false])] 30 146 okM kX12_goFight ⟨ixN 47 (by omega), ixN 47 (by omega), ?_⟩
    rw [ixC (by omega), er, mS_lo (by omega), sX_eq, er, mS_ulo (by omega)]
    exact S156 _ _ fm.row sV_same (et _ rfl)
  have S136 : ∀ H t, Fm (goS i) goI h H → H.1 40 i = mS t → (∀ t1, t1 = upd t (16 + one) (t (16 + one) + nI 1) → ∀ t', t' = upd t1 (16 + oth) (t1 (16 + oth) + nI 1) → upd t' (24 + wi) (t' (24 + wi) + nI 1) = s4) → WP alM mX12_goFight (k + 320) P 136 [some (vR 12 0), some (vR 40 i), some (vI (nI one)), some (vI (nI oth)), some (vI (nI wi)), some (vI (nI lo)), none, none] [] H := by
    intro H t fm er et
    refine wp_at tX12_goFight [(146, [true, true, true, true, true, true, false, false])] 30 136 okM kX12_goFight ⟨ixN 47 (by omega), ixN 47 (by omega), ?_⟩
    rw [ixC (by omega), er, mS_lo (by omega), sX_eq, er, mS_ulo (by omega)]
    exact S146 _ _ fm.row sV_same (et _ rfl)
  have S115 : ∀ H, Fm (goS i) goI h H → H.1 40 i = mS s3 → WP alM mX12_goFight (k + 320) P 115 [some (vR 12 0), some (vR 40 i), some (vI (nI one)), some (vI (nI oth)), some (vI (nI wi)), some (vI (nI lo)), none, none] [] H := by
    intro H fm er
    refine wp_at tX12_goFight [(136, [true, true, true, true, true, true, false, false])] 30 115 okM kX12_goFight ⟨ixN 47 (by omega), ixN 47 (by omega), ?_⟩
    rw [ixC (by omega), er, mS_lo (by omega), sX_eq, er, mS_ulo (by omega)]
    refine S136 _ _ fm.row sV_same ?_
    rintro t1 rfl t2 rfl
    rw [hs4]
    rfl
  -- 83: liked
  have S83 : ∀ H q m, q < 16 → prI (gR g 0 wi) (gR g 0 lo) = bit q → (if s2 44 &&& prI (gR g 0 wi) (gR g 0 lo) = 0 then nI 6 else -(nI 2)) = m → Fm (goS i) goI h H → H.1 40 i = mS s2 → WP alM mX12_goFight (k + 320) P 83 [some (vR 12 0), some (vR 40 i), some (vI (nI one)), some (vI (nI oth)), some (vI (nI wi)), some (vI (nI lo)), some (vI (nI q)), some (vI m)] [] H := by
    intro H q m hq hpr hm fm er
    refine wp_at tX12_goFight [(115, [true, true, true, true, true, true, false, false])] 40 83 okM kX12_goFight ⟨_, c_likes er (by omega), ?_⟩
    rintro v H1 rfl
    refine ⟨_, c_likes sV_same (by omega), ?_⟩
    rintro v H1 rfl
    refine ⟨ix1 47 (by omega), ix1 47 (by omega), ?_⟩
    rw [nI_clamp (by omega), sV_sV, sV_same, sV_sX, mS_40, mS_u40]
    refine ⟨_, c_likes sV_same (by omega), ?_⟩
    rintro v H1 rfl
    rw [sV_sV]
    refine S115 _ fm.row ?_
    rw [sV_same, hs3]
    exact congrArg mS (ex_eq (by omega) (by omega) hne cs hpr hm)
  -- 44: who wins
  have S44 : ∀ H, Fm (goS i) goI h H → H.1 40 i = mS s2 → WP alM mX12_goFight (k + 320) P 44 [some (vR 12 0), some (vR 40 i), some (vI (nI one)), some (vI (nI oth)), none, none, none, none] [vI (nI wi)] H := by
    intro H fm er
    have wH := w.goF fm
    have el : nI one + nI oth - nI wi = nI lo := by rw [hwi, hlo]; exact nI_los wnF_in
    obtain ⟨b1, hb1, eb1⟩ := (hR one h1).1
    obtain ⟨b2', hb2, eb2⟩ := (hR oth h2).1
    have pb := prI_bit b1 hb1 b2' hb2
    have pw : prI (gR g 0 wi) (gR g 0 lo) = bit (4 * min b1 b2' + max b1 b2') := by
      rcases cs with ⟨r1, r2⟩ | ⟨r1, r2⟩
      · rw [r1, r2, eb1, eb2]; exact pb.1
      · rw [r1, r2, eb1, eb2, (prI_bit b2' hb2 b1 hb1).1, Nat.min_comm, Nat.max_comm]
    have q16 : 4 * min b1 b2' + max b1 b2' < 16 := by omega
    refine wp_at tX12_goFight [(83, [true, true, true, true, true, true, true, true])] 60 44 okM kX12_goFight ⟨_, c_pairOf wH h1 h2, ?_⟩
    rw [eb1, eb2, pb.2]
    rintro v H1 ⟨rfl, rfl⟩
    refine ⟨ix1 47 (by omega), _, c_mhas, ?_⟩
    rintro v H1 ⟨rfl, rfl⟩
    have e40 : H1.1 40 i (nI 40).toNatClampNeg = s2 44 := by rw [nI_clamp (by omega), er]; rfl
    rw [e40]
    have ab := and_bit (x := s2 44) q16
    have LV : ∀ m, (if s2 44 &&& prI (gR g 0 wi) (gR g 0 lo) = 0 then nI 6 else -(nI 2)) = m → WP alM mX12_goFight (k + 320) P 83 [some (vR 12 0), some (vR 40 i), some (vI (nI one)), some (vI (nI oth)), some (vI (nI wi)), some (vI (nI one + nI oth - nI wi)), some (vI (nI (4 * min b1 b2' + max b1 b2'))), some (vI m)] [] H1 := by
      intro m hm
      rw [el]
      exact S83 H1 _ m q16 pw hm fm er
    refine ⟨fun c => LV _ ?_, fun c => LV _ ?_⟩
    · rw [pw, if_pos (ab.mpr (b2_0.mp c))]
    · rw [pw, if_neg (fun z => by rw [ab.mp z] at c; exact c rfl)]
  -- 0: the hires, the strengths
  have iS : ∀ H, Fm (goS i) goI h H → ∀ H', Fm stS stI H H' → Fm (goS i) goI h H' := fun H fm H' f2 => fm.tr f2 (by simp [stS, goS]) (by simp [stI, goI])
  have row2 : ∀ H H', Fm stS stI H H' → H'.1 40 i = H.1 40 i := fun H H' f2 => f2.2.2.1 40 i (by simp) (by simp [stS])
  refine ct_vc tX12_goFight [(44, [true, true, true, true, false, false, false, false])] 60 okM kX12_goFight rfl ?_
  refine ⟨_, c_mhire w h1, ?_⟩
  rintro v H1 ⟨rfl, rfl⟩
  rw [ea1]
  refine ⟨_, c_pays w hs h1 (by omega) em0 hm0 (p0.mo (by omega)), ?_⟩
  rw [e1]
  rintro v H2 rfl
  have fmA : Fm (goS i) goI H1 (sV H1 40 i (mS s1)) := (Fm.rf).row
  refine ⟨_, c_mhire (w.goF fmA) h2, ?_⟩
  rintro v H3 ⟨rfl, rfl⟩
  rw [ea2]
  refine ⟨_, c_pays (w.goF fmA) sV_same h2 (by omega) em1 hm1 (p1.mo (by omega)), ?_⟩
  rw [e2]
  rintro v H4 rfl
  rw [sV_sV]
  have fmB : Fm (goS i) goI H1 (sV H1 40 i (mS s2)) := (Fm.rf).row
  refine ⟨_, c_mstr (w.goF fmB) sV_same h1 h2, ?_⟩
  rintro v H5 ⟨rfl, f5⟩
  have fmC := iS _ fmB _ f5
  have rC : H5.1 40 i = mS s2 := by rw [row2 _ _ f5, sV_same]
  refine ⟨_, c_mstr (w.goF fmC) rC h2 h1, ?_⟩
  rintro v H6 ⟨rfl, f6⟩
  have fmD := iS _ fmC _ f6
  have rD : H6.1 40 i = mS s2 := by rw [row2 _ _ f6, rC]
  have ewn : wnG g s one oth = if fwB (gC g) (gR g) s2 one oth = true then one else oth := by rw [hs2, hs1]; rfl
  have FIN := S44 H6 fmD rD
  refine ⟨fun c => ?_, fun c => ?_⟩
  · have : wi = oth := by
      rw [hwi, ewn, if_neg]
      intro q
      exact absurd (of_decide_eq_true q) (i_len c)
    rw [this] at FIN
    exact FIN
  · have : wi = one := by
      rw [hwi, ewn, if_pos]
      exact dT (i_nlt c)
    rw [this] at FIN
    exact FIN
