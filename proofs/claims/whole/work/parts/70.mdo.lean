/-! the reference: doings, remembered and undone -/
def St (D n : Nat) (s : Sta) : Prop := PI n s ∧ ∃ d, d ≤ D ∧ s 46 = nI d
def WaK (n : Nat) (A : Nat → Int32) : Prop := ∀ f, f < 8 → ∃ m, m < 256 ∧ A f = nI m ∧ ∀ o, m.testBit o = true → o < n ∧ f < n ∧ o ≠ f ∧ ∀ p, p < 8 → hsB (A o) p = true → m.testBit p = true
def Inv (D : Nat) (g : GS) : Prop := SeK (gE g) (gM g) ∧ (∃ sw, 1 ≤ sw ∧ sw ≤ 9 ∧ gW g = nI sw) ∧ St D (gN g) (gS g) ∧ (∀ s, s ∈ gP g → St D (gN g) s) ∧ (∀ i s, gK g i = some s → St D (gN g) s) ∧ WaK (gN g) (gA g)
theorem Inv.pi {D : Nat} {g : GS} (y : Inv D g) : PI (gN g) (gS g) := y.2.2.1.1
theorem Inv.sw {D : Nat} {g : GS} (y : Inv D g) : ∃ sw, sw ≤ 9 ∧ gW g = nI sw := by obtain ⟨sw, -, h1, h2⟩ := y.2.1; exact ⟨sw, h1, h2⟩
theorem MI.ww {B D : Nat} {h : Hp} {g : GS} (a : MI B h g) (z : Sz g) (y : Inv D g) : Wm h g := a.w z y.1
/-- copied in -/
def cpA (f : Nat → Int32) (q : Nat) (src : Nat → Int32) (t : Nat) : Nat → Int32 := fun x => if q ≤ x ∧ x < q + t then src (x - q) else f x
theorem cpA_s {f : Nat → Int32} {q : Nat} {src : Nat → Int32} {t : Nat} : upd (cpA f q src t) (q + t) (src t) = cpA f q src (t + 1) := by
  funext x
  unfold upd cpA
  by_cases c : x = q + t
  · subst c
    rw [if_pos rfl, if_pos (by omega)]
    congr 1; omega
  · rw [if_neg c]
    by_cases c2 : q ≤ x ∧ x < q + t
    · rw [if_pos c2, if_pos (by omega)]
    · rw [if_neg c2, if_neg (by omega)]
theorem cpA_0 {f : Nat → Int32} {q : Nat} {src : Nat → Int32} : cpA f q src 0 = f := by funext x; exact if_neg (by omega)
theorem c_layU {k i q : Nat} {h : Hp} (hq : q + 47 ≤ 564) : Ct alM mX12_lay k [vR 40 i, vR 47 0, vI (nI q)] h (Rv (sV h 47 0 (cpA (h.1 47 0) q (h.1 40 i) 47))) := by
  have L : ∀ t, t ≤ 47 → WP alM mX12_lay k (Rv (sV h 47 0 (cpA (h.1 47 0) q (h.1 40 i) 47))) 2 [some (vR 40 i), some (vR 47 0), some (vI (nI q)), some (vI (nI t))] [] (sV h 47 0 (cpA (h.1 47 0) q (h.1 40 i) t)) := by
    refine loop_up 47 ?_ (fun t ht ih => ?_)
    · exact wp_at tX12_lay [] 20 2 okM kX12_lay ⟨fun _ => rfl, fun c => absurd (nI_le (Nat.le_refl 47) (by omega)) c⟩
    · rw [← nI_add t 1] at ih
      refine wp_at tX12_lay [(2, [true, true, true, true])] 30 2 okM kX12_lay ⟨fun c => absurd c (nI_ge ht (by omega)), fun _ => ⟨ix1 47 ht, ixN 564 (by omega), ?_⟩⟩
      rw [nI_clamp (by omega), ixC (by omega), rdV, if_neg (by simp), sV_sX, cpA_s]
      exact ih
  refine ct_vc tX12_lay [(2, [true, true, true, true])] 20 okM kX12_lay rfl ?_
  have := L 0 (Nat.zero_le _)
  rw [cpA_0, sV_id] at this
  exact this
theorem c_layK {k i q : Nat} {h : Hp} (hq : q + 47 ≤ 94) : Ct alM mX12_lay k [vR 40 i, vR 58 0, vI (nI q)] h (Rv (sV h 58 0 (cpA (h.1 58 0) q (h.1 40 i) 47))) := by
  have L : ∀ t, t ≤ 47 → WP alM mX12_lay k (Rv (sV h 58 0 (cpA (h.1 58 0) q (h.1 40 i) 47))) 2 [some (vR 40 i), some (vR 58 0), some (vI (nI q)), some (vI (nI t))] [] (sV h 58 0 (cpA (h.1 58 0) q (h.1 40 i) t)) := by
    refine loop_up 47 ?_ (fun t ht ih => ?_)
    · exact wp_at tX12_lay [] 20 2 okM kX12_lay ⟨fun _ => rfl, fun c => absurd (nI_le (Nat.le_refl 47) (by omega)) c⟩
    · rw [← nI_add t 1] at ih
      refine wp_at tX12_lay [(2, [true, true, true, true])] 30 2 okM kX12_lay ⟨fun c => absurd c (nI_ge ht (by omega)), fun _ => ⟨ix1 47 ht, ixN 94 (by omega), ?_⟩⟩
      rw [nI_clamp (by omega), ixC (by omega), rdV, if_neg (by simp), sV_sX, cpA_s]
      exact ih
  refine ct_vc tX12_lay [(2, [true, true, true, true])] 20 okM kX12_lay rfl ?_
  have := L 0 (Nat.zero_le _)
  rw [cpA_0, sV_id] at this
  exact this
theorem c_layS {k i i2 : Nat} {h : Hp} (hne : i2 ≠ i) : Ct alM mX12_lay k [vR 40 i, vR 40 i2, vI (nI 0)] h (Rv (sV h 40 i2 (h.1 40 i))) := by
  have L : ∀ t, t ≤ 47 → WP alM mX12_lay k (Rv (sV h 40 i2 (cpA (h.1 40 i2) 0 (h.1 40 i) 47))) 2 [some (vR 40 i), some (vR 40 i2), some (vI (nI 0)), some (vI (nI t))] [] (sV h 40 i2 (cpA (h.1 40 i2) 0 (h.1 40 i) t)) := by
    refine loop_up 47 ?_ (fun t ht ih => ?_)
    · exact wp_at tX12_lay [] 20 2 okM kX12_lay ⟨fun _ => rfl, fun c => absurd (nI_le (Nat.le_refl 47) (by omega)) c⟩
    · rw [← nI_add t 1] at ih
      refine wp_at tX12_lay [(2, [true, true, true, true])] 30 2 okM kX12_lay ⟨fun c => absurd c (nI_ge ht (by omega)), fun _ => ⟨ix1 47 ht, ixN 47 (by omega), ?_⟩⟩
      rw [nI_clamp (by omega), ixC (by omega), rdV, if_neg (fun z => hne z.2.symm), sV_sX, cpA_s]
      exact ih
  have C : Ct alM mX12_lay k [vR 40 i, vR 40 i2, vI (nI 0)] h (Rv (sV h 40 i2 (cpA (h.1 40 i2) 0 (h.1 40 i) 47))) := by
    refine ct_vc tX12_lay [(2, [true, true, true, true])] 20 okM kX12_lay rfl ?_
    have := L 0 (Nat.zero_le _)
    rw [cpA_0, sV_id] at this
    exact this
  refine ct_postE C ?_
  rintro v h' rfl
  refine ⟨_, eqv_V (q := (0, 47, 0, 0, 0, 0)) rfl (fun j hj => ?_), rfl⟩
  unfold cpA
  have hj' : j < 47 := hj
  rw [if_pos (by omega), Nat.sub_zero]
def rmS : List Ad := [(47, 0)]
theorem c_remember {k i : Nat} {h : Hp} {g : GS} {s : Sta} (a : m7 h g) (hl : (gP g).length ≤ 12) (hs : h.1 40 i = mS s) : Ct alM mX12_remember (k + 1) [vR 12 0, vR 40 i] h (fun _ h' => Fm rmS [23] h h' ∧ m7 h' (uP g (pushP (gP g) s))) := by
  have S49 : ∀ H p, Fm rmS [23] h H → H.1 12 0 23 = nI p.length → p.length ≤ 11 → (∀ j t, p[j]? = some t → ∀ x, x < 47 → H.1 47 0 (47 * j + x) = mS t x) → p ++ [s] = pushP (gP g) s → WP alM mX12_remember (k + 1) (fun _ h' => Fm rmS [23] h h' ∧ m7 h' (uP g (pushP (gP g) s))) 49 [some (vR 12 0), some (vR 40 i), none] [] H := by
    intro H p fm e23 hp hc ep
    have em : nI 47 * H.1 12 0 23 = nI (47 * p.length) := by rw [e23, nI_mul]
    refine wp_at tX12_remember [] 40 49 okM kX12_remember ⟨_, ct_cv (c_layU (i := i) (q := 47 * p.length) (h := H) (by omega)) (congrArg (fun x => [vR 40 i, vR 47 0, vI x]) em) rfl, ?_⟩
    rintro v H1 rfl
    have er : H.1 40 i = mS s := by rw [fm.2.2.1 40 i (by simp) (by simp [rmS])]; exact hs
    have q23 : (sV H 47 0 (cpA (H.1 47 0) (47 * p.length) (H.1 40 i) 47)).1 12 0 23 = nI p.length := by rw [rdV, if_neg (by simp), e23]
    refine ⟨(fm.sV (by simp [rmS]) (by decide)).sF (by simp), ?_, ?_⟩
    · show (sX (sV H 47 0 (cpA (H.1 47 0) (47 * p.length) (H.1 40 i) 47)) 12 0 23 ((sV H 47 0 (cpA (H.1 47 0) (47 * p.length) (H.1 40 i) 47)).1 12 0 23 + nI 1)).1 12 0 23 = nI (pushP (gP g) s).length
      rw [rdX, if_pos (by simp), q23, nI_add, ← ep, List.length_append]
      rfl
    · intro j t hj x hx
      have hj' : (p ++ [s])[j]? = some t := by rw [ep]; exact hj
      show (sX (sV H 47 0 (cpA (H.1 47 0) (47 * p.length) (H.1 40 i) 47)) 12 0 23 _).1 47 0 (47 * j + x) = mS t x
      rw [sX_row, if_neg (by simp), sV_same]
      unfold cpA
      by_cases c : j < p.length
      · rw [List.getElem?_append_left c] at hj'
        rw [if_neg (by omega)]
        exact hc j t hj' x hx
      · have hjl : j = p.length := by
          have := (List.getElem?_eq_some_iff.mp hj').1
          rw [List.length_append] at this
          simp at this
          omega
        rw [List.getElem?_append_right (by omega), hjl, Nat.sub_self] at hj'
        cases hj'
        rw [if_pos (by omega), er, hjl, Nat.add_sub_cancel_left]
  refine ct_vc tX12_remember [(49, [true, true, false]), (11, [true, true, true])] 40 okM kX12_remember rfl ?_
  refine ⟨fun c => ?_, fun c => ?_⟩
  · have c' : ¬ (gP g).length = 12 := fun z => c (by rw [a.1, z])
    exact S49 h (gP g) Fm.rf a.1 (by omega) a.2 (by unfold pushP; rw [if_neg c'])
  · have c' : (gP g).length = 12 := by
      have c2 : h.1 12 0 23 = nI 12 := nn c
      rw [a.1] at c2
      exact nI_inj (by omega) (by omega) c2
    have L : ∀ t, t ≤ 517 → WP alM mX12_remember (k + 1) (fun _ h' => Fm rmS [23] h h' ∧ m7 h' (uP g (pushP (gP g) s))) 11 [some (vR 12 0), some (vR 40 i), some (vI (nI t))] [] (sV h 47 0 (fun x => if x < t then h.1 47 0 (x + 47) else h.1 47 0 x)) := by
      refine loop_up 517 ?_ (fun t ht ih => ?_)
      · refine wp_at tX12_remember [(49, [true, true, false])] 30 11 okM kX12_remember ⟨fun _ => ?_, fun c => absurd (nI_le (Nat.le_refl 517) (by omega)) c⟩
        have q23 : (sV h 47 0 (fun x => if x < 517 then h.1 47 0 (x + 47) else h.1 47 0 x)).1 12 0 23 = nI 12 := by rw [rdV, if_neg (by simp), a.1, c']
        refine S49 _ (gP g).tail (((Fm.rf).sV (by simp [rmS]) (by decide)).sF (by simp)) ?_ (by rw [List.length_tail]; omega) ?_ (by unfold pushP; rw [if_pos c'])
        · rw [rdX, if_pos (by simp), q23, List.length_tail, c', pk_sub (by omega)]
        · intro j t hj x hx
          rw [List.getElem?_tail] at hj
          have hjl := (List.getElem?_eq_some_iff.mp hj).1
          rw [sX_row, if_neg (by simp), sV_same, if_pos (by omega)]
          have := a.2 (j + 1) t hj x hx
          rw [← this, show 47 * j + x + 47 = 47 * (j + 1) + x by omega]
      · rw [← nI_add t 1] at ih
        refine wp_at tX12_remember [(11, [true, true, true])] 40 11 okM kX12_remember ⟨fun c => absurd c (nI_ge ht (by omega)), fun _ => ⟨ixN 564 (by omega), ix1 564 (by omega), ?_⟩⟩
        rw [nI_clamp (by omega), ixC (by omega), sV_same, sV_sX, if_neg (by omega)]
        refine wp_h ?_ ih
        congr 1
        funext x
        unfold upd
        by_cases cx : x = t
        · subst cx; rw [if_pos rfl, if_pos (by omega)]
        · rw [if_neg cx]
          show (if x < t then h.1 47 0 (x + 47) else h.1 47 0 x) = _
          by_cases cx2 : x < t
          · rw [if_pos cx2, if_pos (by omega)]
          · rw [if_neg cx2, if_neg (by omega)]
    have := L 0 (Nat.zero_le _)
    have e0 : (fun x => if x < 0 then h.1 47 0 (x + 47) else h.1 47 0 x) = h.1 47 0 := by funext x; exact if_neg (by omega)
    rw [e0, sV_id] at this
    exact this
theorem MI.pst {B : Nat} {h h' : Hp} {g : GS} {p : List Sta} (a : MI B h g) (f : Fm rmS [23] h h') (m : m7 h' (uP g p)) : MI B h' (uP g p) :=
  a.with (S := rmS) (F := [23]) f.2.2.1 f.2.2.2 ⟨f.2.1 3 (by decide), f.2.1 4 (by decide)⟩ (Or.inl ⟨by decide, by decide, rfl, rfl⟩) (Or.inl ⟨by decide, by decide, rfl⟩) (Or.inl ⟨by decide, by decide, rfl⟩) (Or.inl ⟨by decide, by decide, rfl⟩) (Or.inl ⟨f.1, by decide, rfl⟩) (Or.inl ⟨by decide, by decide, by decide, rfl⟩) (Or.inr m) (Or.inl ⟨by decide, by decide, by decide, by decide, rfl⟩) (Or.inl ⟨by decide, by decide, rfl⟩) (Or.inl ⟨by decide, by decide, by decide, rfl⟩)
theorem c_remM {B k : Nat} {h : Hp} {g : GS} (a : MI B h g) (z : Sz g) : Ct alM mX12_remember (k + 1) [vR 12 0, vR 40 0] h (fun _ h' => MI B h' (uP g (pushP (gP g) (gS g)))) := by
  refine ct_post (c_remember a.2.2.2.2.2.2.1 z.2.2.2.2.1 a.1.1) ?_
  rintro v h' ⟨f, m⟩
  exact a.pst f m
/-! days -/
theorem c_goDays {k i n : Nat} {h : Hp} {s : Sta} {d : Int32} (h1 : h.1 12 0 1 = nI n) (hn : n ≤ 8) (hs : h.1 40 i = mS s) : Ct alM mX12_goDays (k + 1) [vR 12 0, vR 40 i, vI d] h (Rv (sV h 40 i (mS (psF n s d)))) := by
  have en : ∀ f, (sV h 40 i f).1 12 0 1 = nI n := fun f => by rw [rdV, if_neg (by simp), h1]
  have L : ∀ t, t ≤ n → WP alM mX12_goDays (k + 1) (Rv (sV h 40 i (mS (psF n s d)))) 2 [some (vR 12 0), some (vR 40 i), some (vI d), some (vI (nI t))] [] (sV h 40 i (mS (dyF s d t))) := by
    refine loop_up n ?_ (fun t ht ih => ?_)
    · refine wp_at tX12_goDays [] 30 2 okM kX12_goDays ⟨fun _ => ⟨ix1 47 (by omega), ix1 47 (by omega), ?_⟩, fun c => absurd (by rw [en]; exact nI_le (Nat.le_refl n) (by omega)) c⟩
      rw [nI_clamp (by omega)]
      show sX (sV h 40 i (mS (dyF s d n))) 40 i 46 ((sV h 40 i (mS (dyF s d n))).1 40 i 46 + d) = _
      rw [sV_same, sV_sX, mS_46, mS_u46]
      rfl
    · rw [← nI_add t 1, dyF] at ih
      have e32 : (sV h 40 i (mS (dyF s d t))).1 40 i (nI 32 + nI t).toNatClampNeg = dyF s d t (32 + t) := by rw [sV_same, ixC (by omega), mS_lo (by omega)]
      refine wp_at tX12_goDays [(2, [true, true, true, true])] 40 2 okM kX12_goDays ⟨fun c => absurd c (by rw [en]; exact nI_ge ht (by omega)), fun _ => ⟨ixN 47 (by omega), fun c => ?_, fun c => ⟨ixN 47 (by omega), ixN 47 (by omega), ?_⟩⟩⟩
      · have c' : ¬ dyF s d t (32 + t) = 0 := by rw [← e32]; exact c
        rw [if_neg c'] at ih
        exact ih
      · have c' : dyF s d t (32 + t) = 0 := by rw [← e32]; exact nn c
        rw [if_pos c'] at ih
        rw [ixC (by omega), sV_same, mS_lo (by omega), sV_sX, mS_ulo (by omega)]
        exact ih
  refine ct_vc tX12_goDays [(2, [true, true, true, true])] 20 okM kX12_goDays rfl ?_
  have := L 0 (Nat.zero_le _)
  rw [dyF, ← hs, sV_id] at this
  exact this
theorem MI.nw {B : Nat} {h : Hp} {g : GS} {s : Sta} (a : MI B h g) : MI B (sV h 40 0 (mS s)) (uS g s) := a.now (S := [(40, 0)]) (F := []) ((Fm.rf).sV (by simp) (by decide)) (by simp) (by simp) sV_same
theorem MI.n1 {B : Nat} {h : Hp} {g : GS} (a : MI B h g) : h.1 12 0 1 = nI (gN g) := a.2.1.1
theorem okD_in {d : Int32} : inB (nI 1) (nI 30) d = okD d := rfl
theorem m_Days {B k : Nat} {h : Hp} {g : GS} {d : Int32} (a : MI B h g) (z : Sz g) : Ct alM mX12_days (k + 2) [vR 12 0, vI d] h (fun v h' => v = vI (aDays g d) ∧ MI B h' (nDays g d)) := by
  have a0 := a.fld (j := 10) (x := nI 0) (by decide)
  refine ct_vc tX12_days [] 40 okM kX12_days rfl ?_
  refine ⟨_, c_min, ?_⟩
  rintro v h1 ⟨rfl, rfl⟩
  rw [okD_in]
  unfold aDays nDays
  refine ⟨fun c => ⟨_, c_remM a0 z, ?_⟩, fun c => ?_⟩
  · have c' := b2_n0.mp c
    rintro v h2 a2
    simp only [if_pos c']
    refine ⟨_, c_goDays a2.n1 z.1 a2.1.1, ?_⟩
    rintro v h3 rfl
    refine ⟨ix1 47 (by omega), ?_, a2.nw⟩
    rw [nI_clamp (by omega), sV_same]
    rfl
  · have c' : ¬ okD d = true := by rw [b2_0.mp (nn c)]; decide
    rw [if_neg c', if_neg c']
    exact ⟨rfl, a0⟩
theorem c_refSong {k : Nat} {h : Hp} {g : GS} {x p : Int32} (h1 : h.1 12 0 1 = nI (gN g)) (hn : gN g ≤ 8) (hs : h.1 40 0 = mS (gS g)) : Ct alM mX12_refusesSong (k + 2) [vR 12 0, vI x, vI p] h (Rd h (sgA (gN g) (gS g) x p)) := by
  refine ct_vc tX12_refusesSong [(18, [false, false, false])] 60 okM kX12_refusesSong rfl ?_
  have NO : ¬ (hasN x (gN g) = true ∧ nI 1 ≤ p ∧ p ≤ nI 99) → WP alM mX12_refusesSong (k + 2) (Rd h (sgA (gN g) (gS g) x p)) 18 [none, none, none] [] h := by
    intro hno
    unfold sgA
    rw [if_neg hno]
    exact wp_at tX12_refusesSong [] 10 18 okM kX12_refusesSong ⟨rfl, rfl⟩
  refine ⟨_, c_isMan h1 hn, ?_⟩
  rintro v h' ⟨rfl, rfl⟩
  refine ⟨fun c => NO (fun z => by rw [z.1] at c; exact absurd c (by decide)), fun c => ⟨_, c_min, ?_⟩⟩
  rintro v h' ⟨rfl, rfl⟩
  refine ⟨fun c2 => ?_, fun c2 => NO (fun z => by
    have : inB (nI 1) (nI 99) p = true := by unfold inB; rw [dT z.2.1, dT z.2.2]; rfl
    rw [this] at c2; exact absurd (nn c2) (by decide))⟩
  have q1 := b2_n0.mp c
  have q2 := b2_n0.mp c2
  have hall : hasN x (gN g) = true ∧ nI 1 ≤ p ∧ p ≤ nI 99 := ⟨q1, of_decide_eq_true (and3 q2).1, of_decide_eq_true (and3 q2).2⟩
  unfold sgA
  rw [if_pos hall]
  obtain ⟨j, hj, rfl⟩ := hasN_get q1 (by omega)
  rw [nI_clamp (show j < 2 ^ 31 by omega)]
  have e1 : h'.1 40 0 (nI 32 + nI j).toNatClampNeg = gS g (32 + j) := by rw [ixC (by omega), hs, mS_lo (by omega)]
  have e2 : h'.1 40 0 (nI 41).toNatClampNeg = gS g 45 := by rw [nI_clamp (by omega), hs]; rfl
  refine ⟨ixN 47 (by omega), fun c3 => ⟨ix1 47 (by omega), ?_⟩, fun c3 => ⟨?_, rfl⟩⟩
  · rw [e2, if_pos (show gS g (32 + j) = 0 by rw [← e1]; exact c3)]
    exact ⟨fun c4 => ⟨by rw [if_pos c4], rfl⟩, fun c4 => ⟨by rw [if_neg c4], rfl⟩⟩
  · rw [if_neg (fun q => c3 (by rw [e1]; exact q))]
theorem c_goSong {k j : Nat} {h : Hp} {s : Sta} {p : Int32} (hs : h.1 40 0 = mS s) (hj : j < 8) : Ct alM mX12_goSong (k + 2) [vR 12 0, vI (nI j), vI p] h (Rv (sV h 40 0 (mS (sgF s j p)))) := by
  refine ct_vc tX12_goSong [] 40 okM kX12_goSong rfl ?_
  refine ⟨ix1 47 (by omega), ix1 47 (by omega), ?_⟩
  have e : sX h 40 0 (nI 41).toNatClampNeg (h.1 40 0 (nI 41).toNatClampNeg - p) = sV h 40 0 (mS (upd s 45 (s 45 - p))) := by rw [nI_clamp (by omega), sX_eq, hs, mS_41, mS_u41]
  refine ⟨_, ct_cv (c_likes (m := nI 3) sV_same hj) rfl e, ?_⟩
  rintro v h' rfl
  rw [sV_sV]
  rfl
theorem sgA_yes {n : Nat} {s : Sta} {x p : Int32} (h : sgA n s x p = 0) : hasN x n = true ∧ (nI 1 ≤ p ∧ p ≤ nI 99) ∧ s (32 + x.toNatClampNeg) = 0 ∧ p ≤ s 45 := by
  unfold sgA at h
  split at h
  next c =>
    split at h
    next c2 =>
      split at h
      next c3 => exact ⟨c.1, c.2, c2, c3⟩
      next => exact absurd h (by decide)
    next => exact absurd h (by decide)
  next => exact absurd h (by decide)
theorem m_Song {B k : Nat} {h : Hp} {g : GS} {x p : Int32} (a : MI B h g) (z : Sz g) : Ct alM mX12_song (k + 4) [vR 12 0, vI x, vI p] h (fun v h' => v = vI (aSong g x p) ∧ MI B h' (nSong g x p)) := by
  have hn := z.1
  have a0 := a.fld (j := 10) (x := nI 0) (by decide)
  refine ct_vc tX12_song [] 40 okM kX12_song rfl ?_
  refine ⟨_, c_refSong a0.n1 z.1 a0.1.1, ?_⟩
  rintro v h1 ⟨rfl, rfl⟩
  unfold aSong nSong
  refine ⟨fun c => ⟨_, c_remM a0 z, ?_⟩, fun c => ?_⟩
  · have c' : sgA (gN g) (gS g) x p = 0 := Classical.byContradiction fun q => absurd (sgA_neg q) (i_ltn c)
    obtain ⟨q1, -⟩ := sgA_yes c'
    rintro v h2 a2
    simp only [if_pos c']
    obtain ⟨j, hj, rfl⟩ := hasN_get q1 (by omega)
    rw [nI_clamp (show j < 2 ^ 31 by omega)]
    refine ⟨_, c_goSong a2.1.1 (by omega), ?_⟩
    rintro v h3 rfl
    refine ⟨ix1 47 (by omega), ?_, a2.nw⟩
    rw [nI_clamp (by omega), sV_same]
    rfl
  · have c' : ¬ sgA (gN g) (gS g) x p = 0 := fun q => c (by rw [q]; exact Int32.le_refl _)
    rw [if_neg c', if_neg c']
    exact ⟨rfl, a0⟩
