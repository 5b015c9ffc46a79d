/-! the class's games: what is done -/
/-- an ACT done: the state then, if it can be done -/
def pl1 (g : GS) (s : Sta) (x : Act) : Option Sta := if x.1 = nI 102 then (if hnF (gN g) s x.2.1 x.2.2 = 0 then some (mtG g s x.2.1.toNatClampNeg x.2.2.toNatClampNeg) else none) else if x.1 = nI 100 then (if okD x.2.1 = true then some (psF (gN g) s x.2.1) else none) else if x.1 = nI 115 then (if sgA (gN g) s x.2.1 (nI 5) = 0 then some (sgF s x.2.1.toNatClampNeg (nI 5)) else none) else (if bfA (gR g) (gN g) s x.2.1 = 0 then some (bfF (gR g) s x.2.1.toNatClampNeg) else none)
/-- what it answers then -/
def pv1 (g : GS) (s : Sta) (x : Act) : Int32 := if x.1 = nI 102 then nI 0 else if x.1 = nI 100 then psF (gN g) s x.2.1 46 else if x.1 = nI 115 then sgF s x.2.1.toNatClampNeg (nI 5) 45 else bfF (gR g) s x.2.1.toNatClampNeg (40 + (gR g 3 x.2.1.toNatClampNeg).toNatClampNeg)
/-- ACTS done: how many, the state then, whether all -/
def plR (g : GS) : List Act → Sta → Nat × Sta × Bool
  | [], s => (0, s, true)
  | x :: l, s => match pl1 g s x with
    | some s' => ((plR g l s').1 + 1, (plR g l s').2)
    | none => (0, s, false)
theorem plR_S {g : GS} {x : Act} {l : List Act} {s s' : Sta} (h : pl1 g s x = some s') : plR g (x :: l) s = ((plR g l s').1 + 1, (plR g l s').2) := by rw [plR, h]
theorem plR_N {g : GS} {x : Act} {l : List Act} {s : Sta} (h : pl1 g s x = none) : plR g (x :: l) s = (0, s, false) := by rw [plR, h]
/-- no answer is below 0 -/
def NNg (g : GS) : List Act → Sta → Prop
  | [], _ => True
  | x :: l, s => ∀ s', pl1 g s x = some s' → ¬ pv1 g s x < 0 ∧ NNg g l s'
theorem acK_cs {x : Int32} (h : acK x = true) : x = nI 102 ∨ x = nI 100 ∨ x = nI 115 ∨ x = nI 98 := by
  unfold acK at h
  simp at h
  rcases h with ((h | h) | h) | h
  · exact Or.inl h
  · exact Or.inr (Or.inl h)
  · exact Or.inr (Or.inr (Or.inl h))
  · exact Or.inr (Or.inr (Or.inr h))
theorem act1_cs {T : Nat → Int32} {n p q : Nat} {a : Act} (h : act1 T n p = (q, some a)) : a.1 = pk T n 60 p ∧ acK a.1 = true ∧ a.2.1 = pk T n 60 (p + 1) - nI 48 ∧ p + 1 < 60 ∧ ((a.1 = nI 102 ∧ a.2.2 = pk T n 60 (p + 2) - nI 48 ∧ q = p + 3) ∨ (¬ a.1 = nI 102 ∧ q = p + 2)) := by
  unfold act1 at h
  split at h
  next c =>
    split at h
    next c2 => cases h
    next c2 =>
      have d := acD_ok c2
      split at h
      next c3 =>
        split at h
        next c4 => cases h
        next c4 =>
          have e := acE_ok c4 c2
          cases h
          refine ⟨rfl, c, ?_, d.2.2, Or.inl ⟨c3, ?_, ?_⟩⟩
          · show (acD T n p).1 = _; rw [d.1]
          · show (acE T n p).1 = _; rw [e.1]
          · rw [e.1]
      next c3 =>
        cases h
        refine ⟨rfl, c, ?_, d.2.2, Or.inr ⟨c3, ?_⟩⟩
        · show (acD T n p).1 = _; rw [d.1]
        · rw [d.1]
  next c => cases h
theorem CI.rdA {h : Hp} {g : GS} {p : Nat} (a : CI h g) : CI (sA h p) g := a.rd (Fr.sX Fr.rf (by simp)) (by rw [rdX, if_neg (by simp)])
/-- after a call that leaves the text -/
theorem Tx.go {S : List Ad} {h h' : Hp} {n L p : Nat} (t : Tx h n L p) (f : Fr S h h') (h1 : (9, 0) ∉ S) : Tx h' n L p := by
  unfold Tx
  rw [f.2 9 0 h1]
  exact t
theorem c_playAct {k n p q : Nat} {h : Hp} {g : GS} {x : Act} (a : CI h g) (z : Sz g) (hx : Tx h n 60 p) (hp : p ≤ 60) (ha : act1 (h.1 34 0) n p = (q, some x)) (hnn : ∀ s', pl1 g (gS g) x = some s' → ¬ pv1 g (gS g) x < 0) : Ct alC mX11_playAct (k + 5) [vR 11 0] h (fun v h' => ∃ y, v = vI y ∧ h'.1 34 0 = h.1 34 0 ∧ h'.1 33 1 = h.1 33 1 ∧ ((∃ s', pl1 g (gS g) x = some s' ∧ ¬ y < 0 ∧ CI h' (uS g s') ∧ Tx h' n 60 q) ∨ (pl1 g (gS g) x = none ∧ y < 0 ∧ CI h' g ∧ ∃ p', Tx h' n 60 p'))) := by
  obtain ⟨x1, x2, x3⟩ := x
  obtain ⟨e1, e2, e3, e4, e5⟩ := act1_cs ha
  dsimp only at e1 e2 e3 e5
  have hz := z.1
  have t1 := hx.at (show p + 1 ≤ 200 by omega)
  have T1 : (sA h (p + 1)).1 34 0 = h.1 34 0 := sA_T
  have s11 : sA (sA h (p + 1)) (p + 1 + 1) = sA h (p + 2) := sX_sX
  have t2 := hx.at (show p + 2 ≤ 200 by omega)
  have a2 : CI (sA h (p + 2)) g := a.rdA
  have b34 : (sA h (p + 2)).1 34 0 = h.1 34 0 := sA_T
  have b33 : ∀ r i, (sA h r).1 33 i = h.1 33 i := fun r i => by rw [sX_row, if_neg (by simp)]
  refine ct_vc tX11_playAct [(19, [true, true, true])] 40 okC kX11_playAct rfl ?_
  refine ⟨_, c_next hx, ?_⟩
  rintro v h1 ⟨rfl, rfl⟩
  refine ⟨_, c_next t1, ?_⟩
  rw [T1, s11]
  rintro v h1 ⟨rfl, rfl⟩
  show WP alC mX11_playAct (k + 5) _ 19 [some (vR 11 0), some (vI (pk (h.1 34 0) n 60 p)), some (vI (pk (h.1 34 0) n 60 (p + 1) - nI 48))] [] (sA h (p + 2))
  rw [← e1, ← e3]
  have ne102 : nI 102 ≠ nI 100 ∧ nI 102 ≠ nI 115 ∧ nI 102 ≠ nI 98 ∧ nI 100 ≠ nI 102 ∧ nI 100 ≠ nI 115 ∧ nI 115 ≠ nI 102 ∧ nI 115 ≠ nI 100 ∧ nI 98 ≠ nI 102 ∧ nI 98 ≠ nI 100 ∧ nI 98 ≠ nI 115 := by decide
  have hcs := acK_cs e2
  refine wp_at tX11_playAct [] 40 19 okC kX11_playAct ?_
  refine ⟨fun c => ?_, fun c => ⟨fun c2 => ?_, fun c2 => ⟨fun c3 => ?_, fun c3 => ?_⟩⟩⟩
  · -- days
    have c : x1 = nI 100 := c
    subst c
    have e6 : q = p + 2 := by
      rcases e5 with e5 | e5
      · exact absurd e5.1 ne102.2.2.2.1
      · exact e5.2
    subst e6
    have ep : pl1 g (gS g) (nI 100, x2, x3) = if okD x2 = true then some (psF (gN g) (gS g) x2) else none := by unfold pl1; rw [if_neg ne102.2.2.2.1, if_pos rfl]
    have ev : pv1 g (gS g) (nI 100, x2, x3) = psF (gN g) (gS g) x2 46 := by unfold pv1; rw [if_neg ne102.2.2.2.1, if_pos rfl]
    refine ⟨_, c_pass a2.n hz, ?_⟩
    rintro v h2 ⟨rfl, rfl⟩
    rw [a2.1.1, ep]
    rw [ep, ev] at hnn
    by_cases cc : okD x2 = true
    · simp only [if_pos cc] at hnn ⊢
      refine ⟨_, rfl, ?_, ?_, Or.inl ⟨_, rfl, hnn _ rfl, a2.now, t2.go (fr_one (k := 33) (i := 0)) (by simp)⟩⟩
      · rw [rdV, if_neg (by simp), b34]
      · rw [rdV, if_neg (by simp), b33]
    · simp only [if_neg cc]
      exact ⟨_, rfl, b34, b33 _ _, Or.inr ⟨trivial, by decide, a2, _, t2⟩⟩
  · -- fight
    have c2 : x1 = nI 102 := c2
    subst c2
    have e6 : x3 = pk (h.1 34 0) n 60 (p + 2) - nI 48 ∧ q = p + 3 := by
      rcases e5 with e5 | e5
      · exact e5.2
      · exact absurd rfl e5.1
    obtain ⟨e6, rfl⟩ := e6
    have ep : pl1 g (gS g) (nI 102, x2, x3) = if hnF (gN g) (gS g) x2 x3 = 0 then some (mtG g (gS g) x2.toNatClampNeg x3.toNatClampNeg) else none := by unfold pl1; rw [if_pos rfl]
    refine ⟨_, c_next t2, ?_⟩
    have s12 : sA (sA h (p + 2)) (p + 2 + 1) = sA h (p + 3) := sX_sX
    rw [b34, s12]
    rintro v h2 ⟨rfl, rfl⟩
    have a3 : CI (sA h (p + 3)) g := a.rdA
    have t3 := hx.at (show p + 3 ≤ 200 by omega)
    have b35 : (sA h (p + 3)).1 34 0 = h.1 34 0 := sA_T
    refine ⟨_, ct_cv (c_meetW (x := x2) (y := x3) (i := 0) (a3.wd z)) (congrArg (fun w => [vR 0 0, vR 8 0, vI x2, vI w]) e6.symm) rfl, ?_⟩
    rw [a3.1.1]
    rintro v h4 ⟨rfl, f4, g4⟩
    rw [ep]
    have hsg := meet_sg (n := gN g) (s := gS g) (x := x2) (y := x3) (c := gC g) (R := gR g) z.1
    have b4 : h4.1 34 0 = h.1 34 0 := by rw [f4.2 34 0 (by simp), b35]
    have b5 : h4.1 33 1 = h.1 33 1 := by rw [f4.2 33 1 (by simp), b33]
    by_cases cc : hnF (gN g) (gS g) x2 x3 = 0
    · rw [if_pos cc] at g4
      simp only [if_pos cc] at hsg ⊢
      refine ⟨_, rfl, b4, b5, Or.inl ⟨_, rfl, fun w => absurd cc (hsg.mp w), a3.nowF a3.2.2.2.2.2.1.1 f4 g4, t3.go f4 (by simp)⟩⟩
    · rw [if_neg cc] at g4
      simp only [if_neg cc] at hsg ⊢
      have a4 := a3.nowF a3.2.2.2.2.2.1.1 f4 g4
      exact ⟨_, rfl, b4, b5, Or.inr ⟨trivial, hnF_neg cc, a4, _, t3.go f4 (by simp)⟩⟩
  · -- song
    have c3 : x1 = nI 115 := c3
    subst c3
    have e6 : q = p + 2 := by
      rcases e5 with e5 | e5
      · exact absurd e5.1 ne102.2.2.2.2.2.1
      · exact e5.2
    subst e6
    have ep : pl1 g (gS g) (nI 115, x2, x3) = if sgA (gN g) (gS g) x2 (nI 5) = 0 then some (sgF (gS g) x2.toNatClampNeg (nI 5)) else none := by unfold pl1; rw [if_neg ne102.2.2.2.2.2.1, if_neg ne102.2.2.2.2.2.2.1, if_pos rfl]
    have ev : pv1 g (gS g) (nI 115, x2, x3) = sgF (gS g) x2.toNatClampNeg (nI 5) 45 := by unfold pv1; rw [if_neg ne102.2.2.2.2.2.1, if_neg ne102.2.2.2.2.2.2.1, if_pos rfl]
    refine ⟨_, c_sing a2.n hz, ?_⟩
    rintro v h2 ⟨rfl, rfl⟩
    rw [a2.1.1, ep]
    rw [ep, ev] at hnn
    by_cases cc : sgA (gN g) (gS g) x2 (nI 5) = 0
    · simp only [if_pos cc] at hnn ⊢
      refine ⟨_, rfl, ?_, ?_, Or.inl ⟨_, rfl, hnn _ rfl, a2.now, t2.go (fr_one (k := 33) (i := 0)) (by simp)⟩⟩
      · rw [rdV, if_neg (by simp), b34]
      · rw [rdV, if_neg (by simp), b33]
    · simp only [if_neg cc]
      exact ⟨_, rfl, b34, b33 _ _, Or.inr ⟨trivial, sgA_neg cc, a2, _, t2⟩⟩
  · -- freed
    have c : ¬ x1 = nI 100 := c
    have c2 : ¬ x1 = nI 102 := c2
    have c3 : ¬ x1 = nI 115 := c3
    have e6 : q = p + 2 := by
      rcases e5 with e5 | e5
      · exact absurd e5.1 c2
      · exact e5.2
    subst e6
    have ep : pl1 g (gS g) (x1, x2, x3) = if bfA (gR g) (gN g) (gS g) x2 = 0 then some (bfF (gR g) (gS g) x2.toNatClampNeg) else none := by unfold pl1; rw [if_neg c2, if_neg c, if_neg c3]
    have ev : pv1 g (gS g) (x1, x2, x3) = bfF (gR g) (gS g) x2.toNatClampNeg (40 + (gR g 3 x2.toNatClampNeg).toNatClampNeg) := by unfold pv1; rw [if_neg c2, if_neg c, if_neg c3]
    have br : ro (sA h (p + 2)) 0 = gR g := a2.r
    refine ⟨_, c_buyFree a2.n hz (by rw [br]; exact z.r), ?_⟩
    rintro v h2 ⟨rfl, rfl⟩
    rw [a2.1.1, br, ep]
    rw [ep, ev] at hnn
    by_cases cc : bfA (gR g) (gN g) (gS g) x2 = 0
    · simp only [if_pos cc] at hnn ⊢
      refine ⟨_, rfl, ?_, ?_, Or.inl ⟨_, rfl, hnn _ rfl, a2.now, t2.go (fr_one (k := 33) (i := 0)) (by simp)⟩⟩
      · rw [rdV, if_neg (by simp), b34]
      · rw [rdV, if_neg (by simp), b33]
    · simp only [if_neg cc]
      exact ⟨_, rfl, b34, b33 _ _, Or.inr ⟨trivial, bfA_neg cc, a2, _, t2⟩⟩
theorem Tx.st {h : Hp} {n : Nat} (hn : h.1 9 0 1 = nI n) (hn8 : n ≤ 80) : Tx (sX (sX h 9 0 2 (nI 0)) 9 0 3 (nI 60)) n 60 0 := by
  refine ⟨?_, ?_, ?_, hn8, by omega, by omega⟩
  · rw [rdX, if_neg (by simp), rdX, if_neg (by simp), hn]
  · rw [rdX, if_neg (by simp), rdX, if_pos (by simp)]
  · rw [rdX, if_pos (by simp)]
theorem CI.st {h : Hp} {g : GS} {x y : Int32} (a : CI h g) : CI (sX (sX h 9 0 2 x) 9 0 3 y) g := a.rd (Fr.sX (Fr.sX Fr.rf (by simp)) (by simp)) (by rw [rdX, if_neg (by simp), rdX, if_neg (by simp)])
theorem c_playActs {k n : Nat} {h : Hp} {g : GS} {l : List Act} {p0 : Nat} (a : CI h g) (z : Sz g) (hn : n = gTn g) (hl : acs (gT g) n 60 0 = (p0, some l)) (hnn : NNg g l (gS g)) : Ct alC mX11_playActs (k + 6) [vR 11 0] h (fun v h' => v = vI (nI (plR g l (gS g)).1) ∧ CI h' (uS g (plR g l (gS g)).2.1) ∧ h'.1 33 1 = h.1 33 1 ∧ ∃ p, Tx h' n 60 p ∧ decide (n ≤ p) = (plR g l (gS g)).2.2) := by
  have hn8 : n ≤ 80 := by rw [hn]; exact z.2.2.1
  have L : ∀ f i p (l' : List Act) s h1, i + f = 60 → p ≤ 60 → (acs (gT g) n f p).2 = some l' → NNg g l' s → CI h1 (uS g s) → Tx h1 n 60 p → h1.1 33 1 = h.1 33 1 → (plR g l (gS g)).1 = i + (plR g l' s).1 → (plR g l (gS g)).2 = (plR g l' s).2 → WP alC mX11_playActs (k + 6) (fun v h' => v = vI (nI (plR g l (gS g)).1) ∧ CI h' (uS g (plR g l (gS g)).2.1) ∧ h'.1 33 1 = h.1 33 1 ∧ ∃ p, Tx h' n 60 p ∧ decide (n ≤ p) = (plR g l (gS g)).2.2) 11 [some (vR 11 0), some (vI (nI i)), none] [] h1 := by
    intro f
    induction f with
    | zero =>
      intro i p l' s h1 hi hp hl' hN a1 t1 e1 r1 r2
      have c : n ≤ p := by
        refine Classical.byContradiction fun w => ?_
        rw [acs, if_neg w] at hl'
        cases hl'
      rw [acs_E c] at hl'
      cases hl'
      have hi60 : i = 60 := by omega
      subst hi60
      have r1' : (plR g l (gS g)).1 = 60 := r1
      have r2' : (plR g l (gS g)).2 = (s, true) := r2
      refine wp_at tX11_playActs [] 20 11 okC kX11_playActs ⟨fun _ => ⟨by rw [r1'], ?_, e1, p, t1, ?_⟩, fun c => absurd (nI_le (Nat.le_refl _) (by omega)) c⟩
      · rw [r2']; exact a1
      · rw [r2', dT c]
    | succ f IH =>
      intro i p l' s h1 hi hp hl' hN a1 t1 e1 r1 r2
      refine wp_at tX11_playActs [(11, [true, true, false])] 40 11 okC kX11_playActs ⟨fun c => absurd c (nI_ge (by omega) (by omega)), fun _ => ⟨_, c_tended t1, ?_⟩⟩
      rintro v h2 ⟨rfl, rfl⟩
      refine ⟨fun c => ?_, fun c => ?_⟩
      · have c' : ¬ n ≤ p := of_decide_eq_false (b2_0.mp c)
        have hT : h2.1 34 0 = gT g := a1.tt
        cases hx : (act1 (gT g) n p).2 with
        | none => rw [acs_N c' hx] at hl'; cases hl'
        | some x =>
          rw [acs_S c' hx] at hl'
          obtain ⟨l2, hl2, el⟩ := Option.map_eq_some_iff.mp hl'
          subst el
          have hin := act1_in hx
          have hact : act1 (gT g) n p = ((act1 (gT g) n p).1, some x) := by rw [← hx]
          refine ⟨_, c_playAct (g := uS g s) a1 z t1 hp (by rw [hT]; exact hact) (fun s' hs' => (hN s' hs').1), ?_⟩
          rintro v h3 ⟨y, rfl, b1, b2, hcs⟩
          rcases hcs with ⟨s', p1, p2, p3, p4⟩ | ⟨p1, p2, p3, p', p4⟩
          · have p1' : pl1 g s x = some s' := p1
            rw [plR_S p1'] at r1 r2
            refine ⟨fun _ => ?_, fun c => absurd (i_nlt p2) c⟩
            have := IH (i + 1) _ l2 s' h3 (by omega) hin.1 hl2 (hN s' p1').2 p3 p4 (b2.trans e1) (by omega) r2
            rw [← nI_add i 1] at this
            exact this
          · have p1' : pl1 g s x = none := p1
            rw [plR_N p1'] at r1 r2
            have r2' : (plR g l (gS g)).2 = (s, false) := r2
            have r1' : (plR g l (gS g)).1 = i := r1
            refine ⟨fun c => absurd p2 (i_ltn c), fun _ => ⟨by rw [r1'], ?_, ?_, p, ?_, ?_⟩⟩
            · rw [r2']
              refine p3.rd (Fr.sX Fr.rf (by simp)) ?_
              rw [rdX, if_neg (by simp)]
            · rw [sX_row, if_neg (by simp), b2, e1]
            · have e9 : h2.1 9 0 2 = nI p := t1.2.1
              rw [e9]
              exact p4.at (by omega)
            · rw [r2', dF c']
      · have c' : n ≤ p := of_decide_eq_true (b2_n0.mp c)
        rw [acs_E c'] at hl'
        cases hl'
        have r1' : (plR g l (gS g)).1 = i := r1
        have r2' : (plR g l (gS g)).2 = (s, true) := r2
        refine ⟨by rw [r1'], ?_, e1, p, t1, ?_⟩
        · rw [r2']; exact a1
        · rw [r2', dT c']
  refine ct_vc tX11_playActs [(11, [true, true, false])] 20 okC kX11_playActs rfl ?_
  refine ⟨_, c_tstart, ?_⟩
  rintro v h1 rfl
  refine L 60 0 0 l (gS g) _ rfl (by omega) (by rw [hl]) hnn a.st (Tx.st (by rw [hn]; exact a.tn) hn8) ?_ (by omega) rfl
  rw [sX_row, if_neg (by simp), sX_row, if_neg (by simp)]
def acG (g : GS) : Nat × Option (List Act) := acs (gT g) (gTn g) 60 0
def aGames (g : GS) : Int32 := match (acG g).2 with
  | none => -(nI 1) - nI (acG g).1
  | some l => nI (plR g l (gS g)).1
def pgG (g : GS) (l : List Act) : GS := if (plR g l (gS g)).1 = 0 then uT (uS g (plR g l (gS g)).2.1) (0, gT g) else uP (uT (uS g (plR g l (gS g)).2.1) (0, gT g)) (pushP (gP g) (gS g))
def rGames (g : GS) (l : List Act) : List Int64 := [if (plR g l (gS g)).2.2 = true then lN 0 else lN 1, (mrF (gS g) (plR g l (gS g)).2.1 (nI 1) (gN g)).toInt64]
def nGames (g : GS) : GS := match (acG g).2 with
  | none => uT g (0, gT g)
  | some l => uL (pgG g l) (rGames g l)
theorem plR_le {g : GS} : ∀ (l : List Act) (s : Sta), (plR g l s).1 ≤ l.length
  | [], s => Nat.le_refl _
  | x :: l, s => by
    cases h : pl1 g s x with
    | none => rw [plR_N h]; exact Nat.zero_le _
    | some s' => rw [plR_S h]; have := plR_le (g := g) l s'; show _ + 1 ≤ l.length + 1; omega
theorem acs_len {T : Nat → Int32} {n : Nat} : ∀ (f p : Nat) (l : List Act), (acs T n f p).2 = some l → l.length ≤ f
  | 0, p, l, h => by
    rw [acs] at h
    dsimp only at h
    split at h
    · cases h; exact Nat.le_refl _
    · cases h
  | f + 1, p, l, h => by
    by_cases c : n ≤ p
    · rw [acs_E c] at h; cases h; exact Nat.zero_le _
    · cases hx : (act1 T n p).2 with
      | none => rw [acs_N c hx] at h; cases h
      | some x =>
        rw [acs_S c hx] at h
        obtain ⟨l2, hl2, el⟩ := Option.map_eq_some_iff.mp h
        subst el
        have := acs_len f _ l2 hl2
        show l2.length + 1 ≤ f + 1
        omega
theorem acs_in {T : Nat → Int32} {n : Nat} : ∀ (f p : Nat), p ≤ 60 → (acs T n f p).1 ≤ 70
  | 0, p, h => by rw [acs]; show p ≤ 70; omega
  | f + 1, p, h => by
    by_cases c : n ≤ p
    · rw [acs_E c]; show p ≤ 70; omega
    · cases hx : (act1 T n p).2 with
      | some x => rw [acs_S c hx]; exact acs_in f _ (act1_in hx).1
      | none =>
        rw [acs_N c hx]
        show (act1 T n p).1 ≤ 70
        unfold act1
        have k1 : (acD T n p).2 ≤ p + 1 + 1 := tkD_le
        have k2 : (acE T n p).2 ≤ (acD T n p).2 + 1 := tkD_le
        split
        · split
          · show (acD T n p).2 ≤ 70; omega
          · split
            · split
              · show (acE T n p).2 ≤ 70; omega
              · show (acE T n p).2 ≤ 70; omega
            · show (acD T n p).2 ≤ 70; omega
        · show p ≤ 70; omega
theorem c_Games {k : Nat} {h : Hp} {g : GS} (a : CI h g) (z : Sz g) (hnn : ∀ l, (acG g).2 = some l → NNg g l (gS g)) : Ct alC mX11_games (k + 7) [vR 11 0] h (fun v h' => v = vI (aGames g) ∧ CI h' (nGames g)) := by
  have hz := z.1
  refine ct_vc tX11_games [(76, [true, false, true, true])] 60 okC kX11_games rfl ?_
  refine ⟨_, c_tstart, ?_⟩
  rintro v h1 rfl
  have a1 : CI (sX (sX h 9 0 2 (nI 0)) 9 0 3 (nI 60)) g := a.st
  refine ⟨_, c_wrongAct (Tx.st a.tn z.2.2.1), ?_⟩
  rw [a1.tt, show acs (gT g) (gTn g) 60 0 = acG g from rfl]
  rintro v h2 ⟨rfl, p, hp, rfl⟩
  have a2 : CI (sA (sX (sX h 9 0 2 (nI 0)) 9 0 3 (nI 60)) p) g := a1.rdA
  unfold aGames nGames
  cases hl : (acG g).2 with
  | none =>
    have ew : waA (acG g) = nI (acG g).1 := by unfold waA; rw [hl]
    have hb : (acG g).1 ≤ 70 := acs_in 60 0 (by omega)
    rw [ew]
    refine ⟨fun c => absurd c (nI_nm1 (by omega)), fun _ => ⟨_, c_tclear, ?_⟩⟩
    rintro v h3 rfl
    refine ⟨rfl, a2.text (Fr.sX Fr.rf (by simp)) (by rw [rdX, if_pos (by simp)]) ?_⟩
    rw [sX_row, if_neg (by simp)]; exact a2.tt
  | some l =>
    have ew : waA (acG g) = -(nI 1) := by unfold waA; rw [hl]
    have hacs : acs (gT g) (gTn g) 60 0 = ((acG g).1, some l) := by rw [← hl]; rfl
    have hlen : l.length ≤ 60 := acs_len 60 0 l hl
    have hpl := plR_le (g := g) l (gS g)
    rw [ew]
    refine ⟨fun _ => ⟨_, c_take, ?_⟩, fun c => absurd rfl c⟩
    rintro v h3 rfl
    rw [a2.1.1]
    have a3 : CI (sV (sA (sX (sX h 9 0 2 (nI 0)) 9 0 3 (nI 60)) p) 33 1 (gS g)) g := by
      have := a2.bef
      rw [a2.1.1] at this
      exact this
    refine ⟨_, c_playActs a3 z rfl hacs (hnn l hl), ?_⟩
    rw [sV_same]
    rintro v h4 ⟨rfl, a4, e4, p4, t4, d4⟩
    refine ⟨_, c_tended t4, ?_⟩
    rw [d4]
    rintro v h5 ⟨rfl, rfl⟩
    refine ⟨_, c_tclear, ?_⟩
    rintro v h6 rfl
    have a6 : CI (sX h5 9 0 1 (nI 0)) (uT (uS g (plR g l (gS g)).2.1) (0, gT g)) := by
      refine a4.text (Fr.sX Fr.rf (by simp)) (by rw [rdX, if_pos (by simp)]) ?_
      rw [sX_row, if_neg (by simp)]; exact a4.tt
    have e6 : (sX h5 9 0 1 (nI 0)).1 33 1 = gS g := by rw [sX_row, if_neg (by simp), e4]
    have REST : ∀ h7, CI h7 (pgG g l) → h7.1 33 1 = gS g → WP alC mX11_games (k + 7) (fun v h' => v = vI (nI (plR g l (gS g)).1) ∧ CI h' (uL (pgG g l) (rGames g l))) 76 [some (vR 11 0), none, some (vI (nI (plR g l (gS g)).1)), some (vI (b2 (plR g l (gS g)).2.2))] [] h7 := by
      intro h7 a7 e7
      have nP : gN (pgG g l) = gN g := by unfold pgG; split <;> rfl
      have sP : gS (pgG g l) = (plR g l (gS g)).2.1 := by unfold pgG; split <;> rfl
      refine wp_at tX11_games [(96, [true, false, true, false])] 40 76 okC kX11_games ⟨_, c_clrG a7, ?_⟩
      rintro v h8 ⟨a8, e8⟩
      have R2 : ∀ y, (if (plR g l (gS g)).2.2 = true then lN 0 else lN 1) = y → WP alC mX11_games (k + 7) (fun v h' => v = vI (nI (plR g l (gS g)).1) ∧ CI h' (uL (pgG g l) (rGames g l))) 96 [some (vR 11 0), none, some (vI (nI (plR g l (gS g)).1)), none] [vL y, vR 5 0] h8 := by
        intro y hy
        refine wp_at tX11_games [] 40 96 okC kX11_games ⟨_, c_addG a8 (by show (0 : Nat) < 8; decide), ?_⟩
        rintro v h9 ⟨a9, e9⟩
        refine ⟨_, c_moreSince a9 (show gN (pgG g l) ≤ 8 by rw [nP]; exact hz), ?_⟩
        rintro v h10 ⟨rfl, rfl⟩
        refine ⟨_, c_addG a9 (by show (1 : Nat) < 8; decide), ?_⟩
        rintro v h11 ⟨a11, -⟩
        have x1 : h10.1 33 1 = gS g := by rw [e9, e8, e7]
        have x2 : h10.1 33 0 = (plR g l (gS g)).2.1 := a9.1.1.trans sP
        have x3 : gN (uL (uL (pgG g l) []) (gL (uL (pgG g l) []) ++ [y])) = gN g := nP
        rw [x1, x2, x3] at a11
        refine ⟨rfl, ?_⟩
        unfold rGames
        rw [hy]
        exact a11
      refine ⟨fun c => R2 _ ?_, fun c => R2 _ ?_⟩
      · rw [b2_0.mp c]; rfl
      · rw [b2_n0.mp c]; rfl
    have c0 : nI (plR g l (gS g)).1 ≤ 0 ↔ (plR g l (gS g)).1 = 0 := by
      rw [show (0 : Int32) = nI 0 from rfl, nI_leI (by omega) (by omega)]
      omega
    refine ⟨fun c => REST _ ?_ e6, fun c => ⟨_, c_pushG1 a6 ⟨z.1, z.2.1, Nat.zero_le _, z.2.2.2⟩, ?_⟩⟩
    · unfold pgG; rw [if_pos (c0.mp c)]; exact a6
    · rw [e6]
      rintro v h7 ⟨a7, e7⟩
      refine REST h7 ?_ e7
      unfold pgG; rw [if_neg (fun w => c (c0.mpr w))]; exact a7
