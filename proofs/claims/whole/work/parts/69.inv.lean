/-! what a FIGHT, days, a song, a freeing keep -/
theorem PI_mt {g : GS} {s : Sta} {one oth : Nat} (hn : gN g ≤ 8) (hR : RoK (gR g) (gN g)) (hsw : ∃ sw, sw ≤ 9 ∧ gW g = nI sw) (h1 : one < gN g) (h2 : oth < gN g) (hne : one ≠ oth) (pi : PI (gN g) s) (f1 : s (32 + one) = 0) (f2 : s (32 + oth) = 0) : PI (gN g) (mtG g s one oth) ∧ mtG g s one oth 46 = s 46 ∧ (∀ j, j < gN g → s (32 + j) ≠ 0 → mtG g s one oth (32 + j) = s (32 + j)) := by
  obtain ⟨sw, hsw9, esw⟩ := hsw
  obtain ⟨s2, hs2⟩ : ∃ s2, s2 = pyH (gR g) (pyH (gR g) s one) oth := ⟨_, rfl⟩
  have p2 : PPu (bdN s (gN g) + 18) s2 := by rw [hs2]; exact (py_ok hR h2 (py_ok hR h1 pi.2.1))
  obtain ⟨wi, hwi⟩ : ∃ wi, wi = wnG g s one oth := ⟨_, rfl⟩
  obtain ⟨lo, hlo⟩ : ∃ lo, lo = one + oth - wnG g s one oth := ⟨_, rfl⟩
  have cs : (wi = one ∧ lo = oth) ∨ (wi = oth ∧ lo = one) := by rw [hwi, hlo]; exact wl_cs
  have wi8 : wi < gN g := by rcases cs with ⟨r, -⟩ | ⟨r, -⟩ <;> omega
  have lo8 : lo < gN g := by rcases cs with ⟨-, r⟩ | ⟨-, r⟩ <;> omega
  obtain ⟨a3, ha3, ha3', ea3⟩ := hire9 hR lo8
  have o4 := (own4 hR lo8).1
  obtain ⟨s3, hs3⟩ : ∃ s3, s3 = exF (gR g) s2 wi lo := ⟨_, rfl⟩
  obtain ⟨s4, hs4⟩ : ∃ s4, s4 = m3F s3 one oth wi lo := ⟨_, rfl⟩
  obtain ⟨s5, hs5⟩ : ∃ s5, s5 = jgF (gR g) (nI (lsG g)) s4 lo := ⟨_, rfl⟩
  have eM : mtG g s one oth = hsF (gW g) (hsF (gW g) s5 one) oth := by
    rw [hs5, hs4, hs3, hs2, hwi, hlo]; rfl
  have s3o : ∀ j, j < 40 → 8 ≤ j → s3 j = s j := fun j h3 h4 => by rw [hs3, ex_o (by omega) (by omega) (by omega), hs2, py_o hR h2 (by omega), py_o hR h1 (by omega)]
  have s4f : ∀ j, 32 ≤ j → j < 40 → s4 j = s j := fun j h3 h4 => by rw [hs4, m3_o (by omega) (by omega) (by omega) (by omega), s3o j (by omega) (by omega)]
  have z1 : s4 (32 + one) = 0 := by rw [s4f _ (by omega) (by omega)]; exact f1
  have z2 : s4 (32 + oth) = 0 := by rw [s4f _ (by omega) (by omega)]; exact f2
  have zl : s4 (32 + lo) = 0 := by rcases cs with ⟨-, r⟩ | ⟨-, r⟩ <;> rw [r]; exact z2; exact z1
  have s7f : ∀ j, j < 32 → 8 ≤ j → mtG g s one oth j = s4 j := fun j h3 h4 => by rw [eM, hs_o (by omega), hs_o (by omega), hs5, jg_o (by omega) (by omega) (by omega)]
  -- how often they fought
  have fo : ∀ j, j < gN g → s4 (16 + j) = nI (foN s j + (if j = one then 1 else 0) + (if j = oth then 1 else 0)) := by
    intro j hj
    have e0 := (pi.1 j hj).1
    by_cases c1 : j = one
    · subst c1
      rw [hs4, m3_1 hne (by omega) (by omega) (by omega), s3o _ (by omega) (by omega), e0, nI_add, if_pos rfl, if_neg hne]
    · by_cases c2 : j = oth
      · subst c2
        rw [hs4, m3_2 hne (by omega) (by omega) (by omega), s3o _ (by omega) (by omega), e0, nI_add, if_neg c1, if_pos rfl]
      · rw [hs4, m3_o (by omega) (by omega) (by omega) (by omega), s3o _ (by omega) (by omega), e0, if_neg c1, if_neg c2]; rfl
  have le9 : ∀ j, j < gN g → foN s j + (if j = one then 1 else 0) + (if j = oth then 1 else 0) ≤ 9 := by
    intro j hj
    have := (pi.1 j hj).2.1
    have k1 := (pi.1 one h1).2.2.1 f1
    have k2 := (pi.1 oth h2).2.2.1 f2
    by_cases c1 : j = one
    · subst c1; rw [if_pos rfl, if_neg hne]; omega
    · by_cases c2 : j = oth
      · subst c2; rw [if_neg c1, if_pos rfl]; omega
      · rw [if_neg c1, if_neg c2]; omega
  have fo7 : ∀ j, j < gN g → foN (mtG g s one oth) j = foN s j + (if j = one then 1 else 0) + (if j = oth then 1 else 0) := by
    intro j hj
    unfold foN
    rw [s7f _ (by omega) (by omega), fo j hj, nI_clamp (by have := le9 j hj; omega)]
    rfl
  -- their fates
  have dd : s5 (32 + lo) = if jgD (gR g) (nI (lsG g)) s4 lo then nI 1 else nI 0 := by
    rw [hs5]
    unfold jgF jgD
    split
    next c => rw [pay_o (by omega) (by omega), upd_s]
    next c => exact zl
  have s5o : ∀ j, j < 8 → j ≠ lo → s5 (32 + j) = s4 (32 + j) := fun j hj hl => by rw [hs5, jg_o (by omega) (by omega) (by omega)]
  have fat : ∀ j, j < gN g → j ≠ one → j ≠ oth → mtG g s one oth (32 + j) = s (32 + j) := by
    intro j hj c1 c2
    rw [eM, hs_o (by omega), hs_o (by omega), s5o j (by omega) (by rcases cs with ⟨-, r⟩ | ⟨-, r⟩ <;> omega), s4f _ (by omega) (by omega)]
  have fight : ∀ j, (j = one ∨ j = oth) → mtG g s one oth (32 + j) = if ¬ s5 (32 + j) = nI 1 ∧ gW g ≤ s4 (16 + j) then nI 2 else s5 (32 + j) := by
    intro j hj
    have e16 : ∀ q, q < 8 → s5 (16 + q) = s4 (16 + q) := fun q hq => by rw [hs5, jg_o (by omega) (by omega) (by omega)]
    rw [eM]
    rcases hj with rfl | rfl
    · rw [hs_o (by omega), hs_j, e16 _ (by omega)]
    · rw [hs_j, hs_o (by omega), hs_o (by omega), e16 _ (by omega)]
  have s5z : ∀ j, (j = one ∨ j = oth) → s5 (32 + j) = nI 0 ∨ s5 (32 + j) = nI 1 := by
    intro j hj
    by_cases c : j = lo
    · rw [c, dd]; split
      · exact Or.inr rfl
      · exact Or.inl rfl
    · left
      rw [s5o j (by omega) c]
      rcases hj with rfl | rfl
      · exact z1
      · exact z2
  have P1 : PFo (gN g) (mtG g s one oth) := by
    intro j hj
    have e16 : mtG g s one oth (16 + j) = nI (foN (mtG g s one oth) j) := by rw [s7f _ (by omega) (by omega), fo j hj, fo7 j hj]
    refine ⟨e16, by rw [fo7 j hj]; exact le9 j hj, ?_, ?_⟩
    · by_cases c : j = one ∨ j = oth
      · rw [fight j c]
        intro hz
        split at hz
        · exact absurd hz (by decide)
        next c2 =>
          have nd : ¬ s5 (32 + j) = nI 1 := by rw [hz]; decide
          have lt : ¬ gW g ≤ s4 (16 + j) := fun q => c2 ⟨nd, q⟩
          rw [esw, fo j hj, ← fo7 j hj] at lt
          have : ¬ sw ≤ foN (mtG g s one oth) j := fun q => lt (nI_le q (by rw [fo7 j hj]; have := le9 j hj; omega))
          omega
      · have c1 : j ≠ one := fun q => c (Or.inl q)
        have c2 : j ≠ oth := fun q => c (Or.inr q)
        rw [fat j hj c1 c2, fo7 j hj, if_neg c1, if_neg c2]
        exact (pi.1 j hj).2.2.1
    · by_cases c : j = one ∨ j = oth
      · rw [fight j c]
        split
        · exact Or.inr (Or.inr rfl)
        · rcases s5z j c with q | q
          · exact Or.inl q
          · exact Or.inr (Or.inl q)
      · rw [fat j hj (fun q => c (Or.inl q)) (fun q => c (Or.inr q))]
        exact (pi.1 j hj).2.2.2
  -- the bound
  have de7 : ∀ j, j < gN g → deN (mtG g s one oth) j = deN s j + (if j = lo then (if jgD (gR g) (nI (lsG g)) s4 lo then 450 else 0) else 0) := by
    intro j hj
    unfold deN
    by_cases c : j = one ∨ j = oth
    · have ez : s (32 + j) = 0 := by
        rcases c with r | r
        · rw [r]; exact f1
        · rw [r]; exact f2
      rw [ez, if_neg (show ¬ (0 : Int32) = nI 1 by decide), Nat.zero_add, fight j c]
      by_cases cl : j = lo
      · rw [if_pos cl, cl, dd]
        by_cases cd : jgD (gR g) (nI (lsG g)) s4 lo
        · rw [if_pos cd, if_pos cd, if_neg (show ¬ (¬ nI 1 = nI 1 ∧ gW g ≤ s4 (16 + lo)) from fun q => q.1 rfl), if_pos rfl]
        · rw [if_neg cd, if_neg cd]
          split <;> rfl
      · rw [if_neg cl, s5o j (by rcases c with r | r <;> omega) cl]
        have z : s4 (32 + j) = 0 := by
          rcases c with r | r
          · rw [r]; exact z1
          · rw [r]; exact z2
        rw [z]
        split <;> rfl
    · have nl : ¬ j = lo := fun q => c (by rcases cs with ⟨-, r⟩ | ⟨-, r⟩; exact Or.inr (q.trans r); exact Or.inl (q.trans r))
      rw [fat j hj (fun q => c (Or.inl q)) (fun q => c (Or.inr q)), if_neg nl, Nat.add_zero]
  have bd7 : bdN (mtG g s one oth) (gN g) = bdN s (gN g) + 18 + (if jgD (gR g) (nI (lsG g)) s4 lo then 450 else 0) := by
    unfold bdN
    have e1 := smN_up (F := fun j => 9 * foN s j + deN s j) (c := 9) (gN g) h1
    have e2 := smN_up (F := fun j => (9 * foN s j + deN s j) + if j = one then 9 else 0) (c := 9) (gN g) h2
    have e3 := smN_up (F := fun j => ((9 * foN s j + deN s j) + if j = one then 9 else 0) + if j = oth then 9 else 0) (c := if jgD (gR g) (nI (lsG g)) s4 lo then 450 else 0) (gN g) lo8
    rw [e2, e1] at e3
    rw [show smN (fun j => 9 * foN s j + deN s j) (gN g) + 18 = smN (fun j => 9 * foN s j + deN s j) (gN g) + 9 + 9 by omega, ← e3]
    refine smN_cong _ (fun j hj => ?_)
    rw [fo7 j hj, de7 j hj]
    by_cases c1 : j = one
    · by_cases c2 : j = oth
      · exact absurd (c1.symm.trans c2) hne
      · simp only [if_pos c1, if_neg c2]; omega
    · by_cases c2 : j = oth
      · simp only [if_neg c1, if_pos c2]; omega
      · simp only [if_neg c1, if_neg c2]; omega
  have k45 : ∀ j, (40 ≤ j ∧ j < 44) ∨ j = 45 → s4 j = s2 j := fun j hj => by rw [hs4, m3_o (by omega) (by omega) (by omega) (by omega), hs3, ex_o (by omega) (by omega) (by omega)]
  have p4 : PPu (bdN s (gN g) + 18) s4 := ⟨fun o ho => by rw [k45 _ (by omega)]; exact p2.1 o ho, by rw [k45 _ (by omega)]; exact p2.2⟩
  have p5 : PPu (bdN s (gN g) + 18 + (if jgD (gR g) (nI (lsG g)) s4 lo then 450 else 0)) s5 := by
    rw [hs5]
    unfold jgF
    by_cases cd : ¬ nI (lsG g) ≤ s4 lo ∧ nI 50 * gR g 2 lo ≤ s4 45
    · have cd' : jgD (gR g) (nI (lsG g)) s4 lo := cd
      rw [if_pos cd, if_pos cd', ea3, nI_mul]
      obtain ⟨m4, hm4, em4⟩ := p4.2
      have p4' : PPu (bdN s (gN g) + 18) (upd s4 (32 + lo) (nI 1)) := ⟨fun o ho => by rw [upd_n (by omega)]; exact p4.1 o ho, by rw [upd_n (by omega)]; exact p4.2⟩
      have hpr : 50 * a3 ≤ m4 := by
        have := cd.2
        rw [ea3, em4, nI_mul] at this
        exact (nI_leI (by omega) (by omega)).mp this
      exact pay_ok p4' o4 (by rw [upd_n (by omega)]; exact em4) hpr hm4 (by omega)
    · have cd' : ¬ jgD (gR g) (nI (lsG g)) s4 lo := cd
      rw [if_neg cd']
      rw [if_neg cd]
      exact p4
  refine ⟨⟨P1, ?_, ?_⟩, ?_, ?_⟩
  · rw [bd7]
    have k : ∀ j, 40 ≤ j → mtG g s one oth j = s5 j := fun j hj => by rw [eM, hs_o (by omega), hs_o (by omega)]
    exact ⟨fun o ho => by rw [k _ (by omega)]; exact p5.1 o ho, by rw [k _ (by omega)]; exact p5.2⟩
  · intro j hj
    rw [eM, hs_o (by omega), hs_o (by omega), hs5, jg_o (by omega) (by omega) (by omega), hs4, m3_o (by omega) (by omega) (by omega) (by omega), hs3]
    refine ex_a hn (fun q hq => ?_) j hj
    rw [hs2, py_o hR h2 (by omega), py_o hR h1 (by omega)]
    exact pi.2.2 q hq
  · rw [eM, hs_o (by omega), hs_o (by omega), hs5, jg_o (by omega) (by omega) (by omega), hs4, m3_o (by omega) (by omega) (by omega) (by omega), hs3, ex_o (by omega) (by omega) (by omega), hs2, py_o hR h2 (by omega), py_o hR h1 (by omega)]
  · intro j hj hz
    exact fat j hj (fun q => hz (by rw [q]; exact f1)) (fun q => hz (by rw [q]; exact f2))
/-- the same in all that counts -/
theorem PI_cg {n : Nat} {s t : Sta} (h : PI n s) (hn : n ≤ 8) (e1 : ∀ j, j < n → t (16 + j) = s (16 + j)) (e2 : ∀ j, j < n → t (32 + j) = s (32 + j)) (e3 : PPu (bdN s n) t) (e4 : PFa n t) : PI n t := by
  have ef : ∀ j, j < n → foN t j = foN s j := fun j hj => by unfold foN; rw [e1 j hj]
  have eb : bdN t n = bdN s n := smN_cong n (fun j hj => by rw [ef j hj]; unfold deN; rw [e2 j hj])
  refine ⟨fun j hj => ?_, by rw [eb]; exact e3, e4⟩
  rw [e1 j hj, e2 j hj, ef j hj]
  exact h.1 j hj
theorem dy_o {s : Sta} {d : Int32} {i : Nat} : ∀ n, n ≤ 8 → (i < 8 ∨ 16 ≤ i) → dyF s d n i = s i
  | 0, _, _ => rfl
  | n + 1, hn, h => by
    rw [dyF]
    split
    · rw [upd_n (by omega), dy_o n (by omega) h]
    · exact dy_o n (by omega) h
theorem ps_o {n : Nat} {s : Sta} {d : Int32} {i : Nat} (hn : n ≤ 8) (h : (i < 8 ∨ 16 ≤ i) ∧ i ≠ 46) : psF n s d i = s i := by
  unfold psF
  rw [upd_n h.2, dy_o n hn h.1]
theorem ps_46 {n : Nat} {s : Sta} {d : Int32} (hn : n ≤ 8) : psF n s d 46 = s 46 + d := by
  unfold psF
  rw [upd_s, dy_o n hn (by omega)]
theorem PI_ps {n : Nat} {s : Sta} {d : Int32} (hn : n ≤ 8) (h : PI n s) : PI n (psF n s d) := by
  refine PI_cg h hn (fun j hj => ps_o hn (by omega)) (fun j hj => ps_o hn (by omega)) ⟨fun o ho => ?_, ?_⟩ (fun j hj => ?_)
  · rw [ps_o hn (by omega)]; exact h.2.1.1 o ho
  · rw [ps_o hn (by omega)]; exact h.2.1.2
  · rw [ps_o hn (by omega)]; exact h.2.2 j hj
theorem PI_sg {n j p : Nat} {s : Sta} (hn : n ≤ 8) (hj : j < n) (hp : p ≤ 99) (hm : nI p ≤ s 45) (h : PI n s) : PI n (sgF s j (nI p)) := by
  obtain ⟨m, hm9, em⟩ := h.2.1.2
  have hpm : p ≤ m := by rw [em] at hm; exact (nI_leI (by omega) (by omega)).mp hm
  unfold sgF
  refine PI_cg h hn (fun q hq => by rw [lik_o (by omega), upd_n (by omega)]) (fun q hq => by rw [lik_o (by omega), upd_n (by omega)]) ⟨fun o ho => ?_, m - p, by omega, ?_⟩ (lik_a (fun q hq => ?_))
  · rw [lik_o (by omega), upd_n (by omega)]; exact h.2.1.1 o ho
  · rw [lik_o (by omega), upd_s, em, pk_sub hpm]
  · rw [upd_n (by omega)]; exact h.2.2 q hq
theorem PI_bf {R : Nat → Nat → Int32} {n j : Nat} {s : Sta} (hn : n ≤ 8) (hR : RoK R n) (hj : j < n) (hz : s (32 + j) = 0) (hm : nI 20 * R 2 j ≤ s (40 + (R 3 j).toNatClampNeg)) (h : PI n s) : PI n (bfF R s j) := by
  obtain ⟨a, ha1, ha2, ea⟩ := hire9 hR hj
  have o4 := (own4 hR hj).1
  obtain ⟨o, ho⟩ : ∃ o, (R 3 j).toNatClampNeg = o := ⟨_, rfl⟩
  rw [ho] at o4 hm
  obtain ⟨p, hp, ep⟩ := h.2.1.1 o o4
  have hbd := bd_le hn h.1
  rw [ea, ep, nI_mul] at hm
  have hle : 20 * a ≤ p := (nI_leI (by omega) (by omega)).mp hm
  have e16 : ∀ q, q < n → bfF R s j (16 + q) = s (16 + q) := fun q hq => by unfold bfF; rw [ho, upd_n (by omega), upd_n (by omega)]
  have ef : ∀ q, q < n → foN (bfF R s j) q = foN s q := fun q hq => by unfold foN; rw [e16 q hq]
  have e32 : ∀ q, q < n → q ≠ j → bfF R s j (32 + q) = s (32 + q) := fun q hq hne => by unfold bfF; rw [ho, upd_n (by omega), upd_n (by omega)]
  have ej : bfF R s j (32 + j) = nI 2 := by unfold bfF; rw [upd_s]
  have ed : ∀ q, q < n → deN (bfF R s j) q = deN s q := by
    intro q hq
    unfold deN
    by_cases c : q = j
    · subst c; rw [ej, hz]; rfl
    · rw [e32 q hq c]
  have eb : bdN (bfF R s j) n = bdN s n := smN_cong n (fun q hq => by rw [ef q hq, ed q hq])
  refine ⟨fun q hq => ?_, ?_, fun q hq => ?_⟩
  · rw [e16 q hq, ef q hq]
    refine ⟨(h.1 q hq).1, (h.1 q hq).2.1, ?_, ?_⟩
    · by_cases c : q = j
      · subst c; rw [ej]; intro z; exact absurd z (by decide)
      · rw [e32 q hq c]; exact (h.1 q hq).2.2.1
    · by_cases c : q = j
      · subst c; rw [ej]; exact Or.inr (Or.inr rfl)
      · rw [e32 q hq c]; exact (h.1 q hq).2.2.2
  · rw [eb]
    refine ⟨fun o' ho' => ?_, ?_⟩
    · by_cases c : o' = o
      · subst c
        refine ⟨p - 20 * a, by omega, ?_⟩
        unfold bfF; rw [ho, upd_n (by omega), upd_s, ep, ea, nI_mul, pk_sub hle]
      · unfold bfF; rw [ho, upd_n (by omega), upd_n (by omega)]; exact h.2.1.1 o' ho'
    · unfold bfF; rw [ho, upd_n (by omega), upd_n (by omega)]; exact h.2.1.2
  · unfold bfF; rw [ho, upd_n (by omega), upd_n (by omega)]; exact h.2.2 q hq
