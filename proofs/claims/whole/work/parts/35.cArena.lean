/-! class Arena -/
abbrev mxI (x y : Int32) : Int32 := if x < y then y else x
abbrev mnI (x y : Int32) : Int32 := if y < x then y else x
/-- rule b has the steps c -/
def RuK (h : Hp) (b : Nat) (c : List Int32) : Prop := h.1 6 b 2 = nI c.length ∧ (∃ g, h.1 26 b = lyS g 0 c) ∧ Good c ∧ 1 ≤ c.length ∧ c.length ≤ 40
/-- STRENGTH -/
def stF (c : List Int32) (R : Nat → Nat → Int32) (s : Nat → Int32) (one oth : Nat) : Int32 := vl (ltF R s one oth) c
theorem c_val {k b q i one oth : Nat} {h : Hp} {c : List Int32} (h1 : one < 8) (h2 : oth < 8) (hr : RuK h b c) : Ct alC mX6_value (k + 2) [vR 6 b, vR 3 q, vR 8 i, vI (nI one), vI (nI oth)] h (fun x h' => x = vI (stF c (ro h q) (h.1 33 i) one oth) ∧ Fr [(27, b)] h h') := by
  obtain ⟨hm, ⟨g, hg⟩, hgood, hl1, hl2⟩ := hr
  refine ct_post (c_value h1 h2 hm hl1 hl2 (v := stF c (ro h q) (h.1 33 i) one oth) ?_) ?_
  · rw [hg, evN_ly, hgood.vl]; rfl
  · rintro v h' ⟨rfl, g, rfl⟩
    exact ⟨rfl, Fr.sV Fr.rf (by simp)⟩
theorem RuK.go {S : List Ad} {h h' : Hp} {b : Nat} {c : List Int32} (a : RuK h b c) (f : Fr S h h') (h1 : (6, b) ∉ S) (h2 : (26, b) ∉ S) : RuK h' b c := by
  unfold RuK
  rw [f.2 6 b h1, f.2 26 b h2]
  exact a
theorem ro_fr {S : List Ad} {h h' : Hp} {q : Nat} (f : Fr S h h') (h1 : ∀ p, (38, 5 * q + p) ∉ S) : ro h' q = ro h q := by
  funext p
  exact f.2 38 _ (h1 p)
theorem fr_one {k i : Nat} {f : Nat → Int32} {h : Hp} : Fr [(k, i)] h (sV h k i f) := Fr.sV Fr.rf (by simp)
theorem ro_sV {h : Hp} {k i q : Nat} {f : Nat → Int32} (hk : k ≠ 38) : ro (sV h k i f) q = ro h q := by
  funext p
  show (sV h k i f).1 38 _ = h.1 38 _
  rw [rdV, if_neg (fun z => hk z.1.symm)]
/-- the first wins -/
def fwB (c : List Int32) (R : Nat → Nat → Int32) (s : Nat → Int32) (one oth : Nat) : Bool := decide (stF c R s oth one ≤ stF c R s one oth)
theorem c_firstWins {k b i one oth : Nat} {h : Hp} {c : List Int32} (h1 : one < 8) (h2 : oth < 8) (hr : RuK h b c) : Ct alC mX0_firstWins (k + 3) [vR 0 0, vR 6 b, vR 8 i, vI (nI one), vI (nI oth)] h (fun x h' => x = vI (b2 (fwB c (ro h 0) (h.1 33 i) one oth)) ∧ Fr [(27, b)] h h') := by
  refine ct_vc tX0_firstWins [] 30 okC kX0_firstWins rfl ?_
  refine ⟨_, c_val h1 h2 hr, ?_⟩
  rintro v h' ⟨rfl, f1⟩
  refine ⟨_, c_val h2 h1 (hr.go f1 (by simp) (by simp)), ?_⟩
  rintro v h'' ⟨rfl, f2⟩
  have f3 : Fr [(27, b)] h h'' := f1.tr f2 (fun _ z => z)
  rw [ro_fr f1 (by simp), f1.2 33 i (by simp)]
  exact ⟨fun c => ⟨Or.inl rfl, bF (dF (i_len c)), f3⟩, fun c => ⟨Or.inr rfl, bT (dT (i_nlt c)), f3⟩⟩
theorem c_rulesDiffer {k i one oth : Nat} {h : Hp} {c c' : List Int32} (h1 : one < 8) (h2 : oth < 8) (hr : RuK h (h.2.2 0) c) (hr' : RuK h (h.2.2 1) c') : Ct alC mX0_rulesDiffer (k + 4) [vR 0 0, vR 8 i, vI (nI one), vI (nI oth)] h (fun x h' => x = vI (b2 (decide (fwB c (ro h 0) (h.1 33 i) one oth ≠ fwB c' (ro h 0) (h.1 33 i) one oth))) ∧ Fr [(27, h.2.2 0), (27, h.2.2 1)] h h') := by
  refine ct_vc tX0_rulesDiffer [] 30 okC kX0_rulesDiffer rfl ?_
  refine ⟨_, c_firstWins h1 h2 hr, ?_⟩
  rintro v h' ⟨rfl, f1⟩
  have e2 : h'.2.2 1 = h.2.2 1 := by rw [f1.1]
  refine ⟨_, ct_cv (c_firstWins h1 h2 (hr'.go f1 (by simp) (by simp))) (congrArg (fun x => [vR 0 0, vR 6 x, vR 8 i, vI (nI one), vI (nI oth)]) e2) rfl, ?_⟩
  rintro v h'' ⟨rfl, f2⟩
  have f3 : Fr [(27, h.2.2 0), (27, h.2.2 1)] h h'' := (f1.mo (by simp)).tr f2 (by simp)
  rw [ro_fr f1 (by simp), f1.2 33 i (by simp)]
  refine ⟨fun c => ⟨Or.inl rfl, bF (dF (fun z => z (b2_inj c))), f3⟩, fun c => ⟨Or.inr rfl, bT (dT (fun z => c (congrArg b2 z))), f3⟩⟩
/-- why two can't fight -/
def hnF (n : Nat) (s : Nat → Int32) (x y : Int32) : Int32 := if hasN x n = true ∧ hasN y n = true ∧ x ≠ y then (if s (32 + x.toNatClampNeg) = 0 ∧ s (32 + y.toNatClampNeg) = 0 then (if canF s x.toNatClampNeg = true ∧ canF s y.toNatClampNeg = true then nI 0 else -(nI 3)) else -(nI 2)) else -(nI 1)
theorem c_hindrance {k n i : Nat} {h : Hp} {x y : Int32} (hc : h.1 3 0 3 = nI n) (hn : n ≤ 8) : Ct alC mX0_hindrance (k + 3) [vR 0 0, vR 8 i, vI x, vI y] h (Rd h (hnF n (h.1 33 i) x y)) := by
  have E : ¬ (hasN x n = true ∧ hasN y n = true ∧ x ≠ y) → WP alC mX0_hindrance (k + 3) (Rd h (hnF n (h.1 33 i) x y)) 27 [none, none, none, none] [] h := by
    intro hno
    refine wp_at tX0_hindrance [] 10 27 okC kX0_hindrance ⟨?_, rfl⟩
    unfold hnF
    rw [if_neg hno]
  refine ct_vc tX0_hindrance [(27, [false, false, false, false])] 60 okC kX0_hindrance rfl ?_
  refine ⟨_, c_has hc, ?_⟩
  rintro v h' ⟨rfl, rfl⟩
  refine ⟨fun c => E (fun z => by rw [z.1] at c; exact absurd c (by decide)), fun c => ⟨_, c_has hc, ?_⟩⟩
  rintro v h' ⟨rfl, rfl⟩
  refine ⟨fun c2 => E (fun z => by rw [z.2.1] at c2; exact absurd c2 (by decide)), fun c2 => ⟨fun c3 => ?_, fun c3 => E (fun z => z.2.2 (nn c3))⟩⟩
  have hx := b2_n0.mp c
  have hy := b2_n0.mp c2
  have hall : hasN x n = true ∧ hasN y n = true ∧ x ≠ y := ⟨hx, hy, c3⟩
  obtain ⟨a, ha, rfl⟩ := hasN_get hx (by omega)
  obtain ⟨b, hb, rfl⟩ := hasN_get hy (by omega)
  unfold hnF
  rw [if_pos hall, nI_clamp (by omega), nI_clamp (by omega)]
  refine ⟨_, c_isHere (by omega), ?_⟩
  rintro v h' ⟨rfl, rfl⟩
  refine ⟨fun c4 => ⟨?_, rfl⟩, fun c4 => ⟨_, c_isHere (by omega), ?_⟩⟩
  · rw [if_neg (fun z => of_decide_eq_false (b2_0.mp c4) z.1)]
  rintro v h' ⟨rfl, rfl⟩
  refine ⟨fun c5 => ⟨_, c_canFight (by omega), ?_⟩, fun c5 => ⟨?_, rfl⟩⟩
  · have h4 := of_decide_eq_true (b2_n0.mp c4)
    have h5 := of_decide_eq_true (b2_n0.mp c5)
    rintro v h' ⟨rfl, rfl⟩
    rw [if_pos ⟨h4, h5⟩]
    refine ⟨fun c6 => ⟨?_, rfl⟩, fun c6 => ⟨_, c_canFight (by omega), ?_⟩⟩
    · rw [if_neg (fun z => by rw [z.1] at c6; exact absurd c6 (by decide))]
    rintro v h' ⟨rfl, rfl⟩
    refine ⟨fun c7 => ⟨?_, rfl⟩, fun c7 => ⟨?_, rfl⟩⟩
    · rw [if_neg (fun z => by rw [z.2] at c7; exact absurd c7 (by decide))]
    · rw [if_pos ⟨b2_n0.mp c6, b2_n0.mp c7⟩]
  · rw [if_neg (fun z => of_decide_eq_false (b2_0.mp (nn c5)) z.2)]
/-- what is known of a fighter: arms, skill, hire, owner -/
def RoK (R : Nat → Nat → Int32) (n : Nat) : Prop := ∀ j, j < n → (∃ a, a < 4 ∧ R 0 j = nI a) ∧ (∃ a, 1 ≤ a ∧ a < 10 ∧ R 1 j = nI a) ∧ (∃ a, 1 ≤ a ∧ a < 10 ∧ R 2 j = nI a) ∧ ∃ a, a < 4 ∧ R 3 j = nI a
def pyH (R : Nat → Nat → Int32) (s : Nat → Int32) (j : Nat) : Nat → Int32 := payF s (R 3 j).toNatClampNeg (mnI (s 45) (R 2 j))
theorem c_payHire {k n i j : Nat} {h : Hp} (hR : RoK (ro h 0) n) (hn : n ≤ 8) (hj : j < n) : Ct alC mX0_payHire (k + 1) [vR 0 0, vR 8 i, vI (nI j)] h (Rv (sV h 33 i (pyH (ro h 0) (h.1 33 i) j))) := by
  obtain ⟨-, -, -, ow, how, eow⟩ := hR j hj
  refine ct_vc tX0_payHire [] 30 okC kX0_payHire rfl ?_
  refine ⟨_, c_of (by omega) (by omega), ?_⟩
  rintro v h' ⟨rfl, rfl⟩
  refine ⟨_, c_means, ?_⟩
  rintro v h' ⟨rfl, rfl⟩
  refine ⟨_, c_of (by omega) (by omega), ?_⟩
  rintro v h' ⟨rfl, rfl⟩
  have eow' : h'.1 38 (5 * 0 + 3) j = nI ow := eow
  refine ⟨_, ct_cv (c_pay how) (congrArg (fun x => [vR 8 i, vI x, vI (mnI (h'.1 33 i 45) (h'.1 38 (5 * 0 + 2) j))]) eow') rfl, ?_⟩
  rintro v h'' rfl
  show sV h' 33 i _ = sV h' 33 i _
  unfold pyH
  rw [eow, nI_clamp (by omega)]
def prI (a b : Int32) : Int32 := nI 1 <<< ((mnI a b * nI 4 + mxI a b) &&& 31)
def exF (R : Nat → Nat → Int32) (s : Nat → Int32) (w l : Nat) : Nat → Int32 := likF (likF (likF (upd s 44 (s 44 ||| prI (R 0 w) (R 0 l))) w (if s 44 &&& prI (R 0 w) (R 0 l) = 0 then nI 6 else -(nI 2))) l (if s 44 &&& prI (R 0 w) (R 0 l) = 0 then nI 6 else -(nI 2))) w (nI 4)
theorem c_excite {k i w l : Nat} {h : Hp} (hw : w < 8) (hl : l < 8) : Ct alC mX0_excite (k + 2) [vR 0 0, vR 8 i, vI (nI w), vI (nI l)] h (Rv (sV h 33 i (exF (ro h 0) (h.1 33 i) w l))) := by
  have E : ∀ m : Int32, (if h.1 33 i 44 &&& prI (ro h 0 0 w) (ro h 0 0 l) = 0 then nI 6 else -(nI 2)) = m → WP alC mX0_excite (k + 2) (Rv (sV h 33 i (exF (ro h 0) (h.1 33 i) w l))) 63 [none, some (vR 8 i), some (vI (nI w)), some (vI (nI l)), none, none, some (vI (prI (ro h 0 0 w) (ro h 0 0 l))), none] [vI m] h := by
    intro m hm
    refine wp_at tX0_excite [] 60 63 okC kX0_excite ⟨ix1 47 (by omega), ix1 47 (by omega), ?_⟩
    rw [nI_clamp (by omega)]
    refine ⟨_, c_like hw, ?_⟩
    rintro v h' rfl
    refine ⟨_, c_like hl, ?_⟩
    rintro v h' rfl
    refine ⟨_, c_like hw, ?_⟩
    rintro v h' rfl
    unfold exF
    rw [hm]
    show sV _ 33 i _ = _
    rw [sV_sV, sV_sV, sV_same, sV_same, sX_eq, sV_same, sV_sV]
  refine ct_vc tX0_excite [(63, [false, true, true, true, false, false, true, false])] 60 okC kX0_excite rfl ?_
  refine ⟨_, c_of (by omega) (by omega), ?_⟩
  rintro v h' ⟨rfl, rfl⟩
  refine ⟨_, c_of (by omega) (by omega), ?_⟩
  rintro v h' ⟨rfl, rfl⟩
  refine ⟨ix1 47 (by omega), ?_⟩
  rw [nI_clamp (by omega)]
  refine ⟨fun c => E _ ?_, fun c => E _ ?_⟩
  · exact if_neg c
  · exact if_pos (nn c)
/-- judged by the crowd (lsp: the least FAVOUR that is spared) -/
def jgF (R : Nat → Nat → Int32) (lsp : Int32) (s : Nat → Int32) (l : Nat) : Nat → Int32 := if ¬ lsp ≤ s l ∧ nI 50 * R 2 l ≤ s 45 then payF (upd s (32 + l) (nI 1)) (R 3 l).toNatClampNeg (nI 50 * R 2 l) else s
theorem c_judge {k n i l : Nat} {h : Hp} (hR : RoK (ro h 0) n) (hn : n ≤ 8) (hl : l < n) : Ct alC mX0_judge (k + 2) [vR 0 0, vR 8 i, vI (nI l)] h (Rv (sV h 33 i (jgF (ro h 0) (h.1 1 0 1) (h.1 33 i) l))) := by
  obtain ⟨-, -, -, ow, how, eow⟩ := hR l hl
  refine ct_vc tX0_judge [] 60 okC kX0_judge rfl ?_
  refine ⟨_, c_of (by omega) (by omega), ?_⟩
  rintro v h' ⟨rfl, rfl⟩
  refine ⟨_, c_favour (by omega), ?_⟩
  rintro v h' ⟨rfl, rfl⟩
  refine ⟨_, c_spares, ?_⟩
  rintro v h' ⟨rfl, rfl⟩
  unfold jgF
  refine ⟨fun c => ?_, fun c => ⟨_, c_means, ?_⟩⟩
  · rw [if_neg (fun z => z.1 (of_decide_eq_true (b2_n0.mp c))), sV_id]; exact rfl
  rintro v h' ⟨rfl, rfl⟩
  refine ⟨fun c2 => ?_, fun c2 => ⟨ixN 47 (by omega), ?_⟩⟩
  · rw [if_neg (fun z => (i_len c2) z.2), sV_id]; exact rfl
  · rw [ixC (by omega), if_pos ⟨of_decide_eq_false (b2_0.mp (nn c)), i_nlt c2⟩]
    refine ⟨_, c_of (by omega) (by omega), ?_⟩
    rintro v h2 ⟨rfl, rfl⟩
    have eow2 : (sX h' 33 i (32 + l) (nI 1)).1 38 (5 * 0 + 3) l = nI ow := by rw [rdX, if_neg (by simp)]; exact eow
    refine ⟨_, ct_cv (c_pay how) (congrArg (fun x => [vR 8 i, vI x, vI (nI 50 * h'.1 38 (5 * 0 + 2) l)]) eow2) rfl, ?_⟩
    rintro v h2 rfl
    show sV _ 33 i _ = sV _ 33 i _
    rw [sX_eq, sV_sV, sV_same, eow, nI_clamp (by omega)]
def hsF (sw : Int32) (s : Nat → Int32) (j : Nat) : Nat → Int32 := if ¬ s (32 + j) = nI 1 ∧ sw ≤ s (16 + j) then upd s (32 + j) (nI 2) else s
theorem c_handSword {k i j : Nat} {h : Hp} (hj : j < 8) : Ct alC mX0_handSword (k + 2) [vR 0 0, vR 8 i, vI (nI j)] h (Rv (sV h 33 i (hsF (h.1 0 0 4) (h.1 33 i) j))) := by
  refine ct_vc tX0_handSword [] 60 okC kX0_handSword rfl ?_
  refine ⟨_, c_isDead hj, ?_⟩
  rintro v h' ⟨rfl, rfl⟩
  unfold hsF
  refine ⟨fun c => ?_, fun c => ⟨_, c_fought hj, ?_⟩⟩
  · rw [if_neg (fun z => z.1 (of_decide_eq_true (b2_n0.mp c))), sV_id]; exact rfl
  rintro v h' ⟨rfl, rfl⟩
  refine ⟨fun c2 => ?_, fun c2 => ⟨ixN 47 (by omega), ?_⟩⟩
  · rw [if_neg (fun z => (i_len c2) z.2), sV_id]; exact rfl
  · rw [ixC (by omega), if_pos ⟨of_decide_eq_false (b2_0.mp (nn c)), i_nlt c2⟩]
    rfl
/-- the loser -/
def loS2 (one oth w : Nat) : Nat := one + oth - w
def m1F (c : List Int32) (R : Nat → Nat → Int32) (s : Nat → Int32) (one oth : Nat) : Nat → Int32 := pyH R (pyH R s one) oth
def wnF (c : List Int32) (R : Nat → Nat → Int32) (s : Nat → Int32) (one oth : Nat) : Nat := if fwB c R (pyH R (pyH R s one) oth) one oth = true then one else oth
/-- hurt, FOUGHT, WON -/
def m3F (s : Nat → Int32) (one oth w l : Nat) : Nat → Int32 :=
  upd (upd (upd (upd s (8 + l) (mnI (nI 9) (s (8 + l) + nI 3))) (16 + one) (upd s (8 + l) (mnI (nI 9) (s (8 + l) + nI 3)) (16 + one) + nI 1)) (16 + oth) (upd (upd s (8 + l) (mnI (nI 9) (s (8 + l) + nI 3))) (16 + one) (upd s (8 + l) (mnI (nI 9) (s (8 + l) + nI 3)) (16 + one) + nI 1) (16 + oth) + nI 1)) (24 + w)
    (upd (upd (upd s (8 + l) (mnI (nI 9) (s (8 + l) + nI 3))) (16 + one) (upd s (8 + l) (mnI (nI 9) (s (8 + l) + nI 3)) (16 + one) + nI 1)) (16 + oth) (upd (upd s (8 + l) (mnI (nI 9) (s (8 + l) + nI 3))) (16 + one) (upd s (8 + l) (mnI (nI 9) (s (8 + l) + nI 3)) (16 + one) + nI 1) (16 + oth) + nI 1) (24 + w) + nI 1)
/-- a FIGHT -/
def mtF (c : List Int32) (R : Nat → Nat → Int32) (lsp sw : Int32) (s : Nat → Int32) (one oth : Nat) : Nat → Int32 :=
  hsF sw (hsF sw (jgF R lsp (m3F (exF R (pyH R (pyH R s one) oth) (wnF c R s one oth) (loS2 one oth (wnF c R s one oth))) one oth (wnF c R s one oth) (loS2 one oth (wnF c R s one oth))) (loS2 one oth (wnF c R s one oth))) one) oth
theorem meet_rest {k n i a d w l : Nat} {h : Hp} {P : AV → Hp → Prop} (hn : n ≤ 8) (hR : RoK (ro h 0) n) (ha : a < n) (hd : d < n) (hw : w < n) (hl : l < n) (hwl : w + l = a + d) (hP : P (vI (nI w)) (sV h 33 i (hsF (h.1 0 0 4) (hsF (h.1 0 0 4) (jgF (ro h 0) (h.1 1 0 1) (m3F (exF (ro h 0) (h.1 33 i) w l) a d w l) l) a) d))) : WP alC mX0_meet (k + 4) P 48 [some (vR 0 0), some (vR 8 i), some (vI (nI a)), some (vI (nI d)), none, none, none] [vI (nI w)] h := by
  have el : nI a + nI d - nI w = nI l := by
    rw [nI_add, ← hwl, Nat.add_comm, ← nI_add]
    exact Int32.add_sub_cancel _ _
  refine wp_at tX0_meet [(67, [true, true, true, true, false, true, true])] 40 48 okC kX0_meet ⟨_, ct_cv (c_excite (w := w) (l := l) (by omega) (by omega)) (congrArg (fun x => [vR 0 0, vR 8 i, vI (nI w), vI x]) el) rfl, ?_⟩
  rintro v h2 rfl
  show WP alC mX0_meet (k + 4) P 67 [some (vR 0 0), some (vR 8 i), some (vI (nI a)), some (vI (nI d)), none, some (vI (nI w)), some (vI (nI a + nI d - nI w))] [] _
  rw [el]
  refine wp_at tX0_meet [(130, [true, true, true, true, false, true, true])] 80 67 okC kX0_meet ⟨_, c_hurt (by omega), ?_⟩
  rintro v h2 ⟨rfl, rfl⟩
  refine ⟨ixN 47 (by omega), ixN 47 (by omega), ixN 47 (by omega), ixN 47 (by omega), ixN 47 (by omega), ixN 47 (by omega), ixN 47 (by omega), ?_⟩
  simp only [ixC (show 8 + l < 2 ^ 31 by omega), ixC (show 16 + a < 2 ^ 31 by omega), ixC (show 16 + d < 2 ^ 31 by omega), ixC (show 24 + w < 2 ^ 31 by omega), sV_sX, sV_same]
  have r1 : ∀ s, ro (sV h 33 i s) 0 = ro h 0 := fun s => ro_sV (by decide)
  show WP alC mX0_meet (k + 4) P 130 [some (vR 0 0), some (vR 8 i), some (vI (nI a)), some (vI (nI d)), none, some (vI (nI w)), some (vI (nI l))] [] (sV h 33 i (m3F (exF (ro h 0) (h.1 33 i) w l) a d w l))
  refine wp_at tX0_meet [] 40 130 okC kX0_meet ⟨_, c_judge (n := n) (by rw [r1]; exact hR) hn hl, ?_⟩
  rintro v h2 rfl
  refine ⟨_, c_handSword (by omega), ?_⟩
  rintro v h2 rfl
  refine ⟨_, c_handSword (by omega), ?_⟩
  rintro v h2 rfl
  simp only [sV_sV, sV_same, r1]
  have e1 : ∀ s, (sV h 33 i s).1 1 0 = h.1 1 0 := fun s => by rw [rdV, if_neg (by simp)]
  have e2 : ∀ s, (sV h 33 i s).1 0 0 = h.1 0 0 := fun s => by rw [rdV, if_neg (by simp)]
  simp only [e1, e2]
  exact hP
theorem c_meet {k n i b : Nat} {h : Hp} {x y : Int32} {c : List Int32} (hc : h.1 3 0 3 = nI n) (hn : n ≤ 8) (hR : RoK (ro h 0) n) (hb : h.2.2 0 = b) (hr : RuK h b c) : Ct alC mX0_meet (k + 4) [vR 0 0, vR 8 i, vI x, vI y] h (fun v h' => v = vI (if hnF n (h.1 33 i) x y = 0 then nI (wnF c (ro h 0) (h.1 33 i) x.toNatClampNeg y.toNatClampNeg) else hnF n (h.1 33 i) x y) ∧ Fr [(33, i), (27, b)] h h' ∧ h'.1 33 i = if hnF n (h.1 33 i) x y = 0 then mtF c (ro h 0) (h.1 1 0 1) (h.1 0 0 4) (h.1 33 i) x.toNatClampNeg y.toNatClampNeg else h.1 33 i) := by
  refine ct_vc tX0_meet [(48, [true, true, true, true, false, false, false])] 60 okC kX0_meet rfl ?_
  refine ⟨_, c_hindrance hc hn, ?_⟩
  rintro v h' ⟨rfl, rfl⟩
  refine ⟨fun c0 => ?_, fun c0 => ?_⟩
  · have c0' : hnF n (h'.1 33 i) x y = 0 := c0
    rw [if_pos c0', if_pos c0']
    have hall : hasN x n = true ∧ hasN y n = true ∧ x ≠ y := by
      unfold hnF at c0'
      split at c0'
      · assumption
      · exact absurd c0' (by decide)
    obtain ⟨a, ha, rfl⟩ := hasN_get hall.1 (by omega)
    obtain ⟨d, hd, rfl⟩ := hasN_get hall.2.1 (by omega)
    rw [nI_clamp (by omega), nI_clamp (by omega)]
    refine ⟨_, c_payHire hR hn ha, ?_⟩
    rintro v h2 rfl
    have r1 : ∀ s, ro (sV h' 33 i s) 0 = ro h' 0 := fun s => ro_sV (by decide)
    refine ⟨_, c_payHire (n := n) (by rw [r1]; exact hR) hn hd, ?_⟩
    rintro v h2 rfl
    rw [r1, sV_sV, sV_same]
    have hb2 : (sV h' 33 i (pyH (ro h' 0) (pyH (ro h' 0) (h'.1 33 i) a) d)).2.2 0 = b := hb
    refine ⟨_, ct_cv (c_firstWins (i := i) (by omega) (by omega) (hr.go (fr_one (k := 33) (i := i)) (by simp) (by simp))) (congrArg (fun z => [vR 0 0, vR 6 z, vR 8 i, vI (nI a), vI (nI d)]) hb2) rfl, ?_⟩
    rw [r1, sV_same]
    rintro v h3 ⟨rfl, f3⟩
    have r3 : ro h3 0 = ro h' 0 := by rw [ro_fr f3 (by simp), r1]
    have e33 : h3.1 33 i = pyH (ro h' 0) (pyH (ro h' 0) (h'.1 33 i) a) d := by rw [f3.2 33 i (by simp), sV_same]
    have e1 : h3.1 1 0 = h'.1 1 0 := by rw [f3.2 1 0 (by simp), rdV, if_neg (by simp)]
    have e0 : h3.1 0 0 = h'.1 0 0 := by rw [f3.2 0 0 (by simp), rdV, if_neg (by simp)]
    have had : a ≠ d := fun z => hall.2.2 (by rw [z])
    have fin : ∀ w, w = wnF c (ro h' 0) (h'.1 33 i) a d → WP alC mX0_meet (k + 4) (fun v h'' => v = vI (nI (wnF c (ro h' 0) (h'.1 33 i) a d)) ∧ Fr [(33, i), (27, b)] h' h'' ∧ h''.1 33 i = mtF c (ro h' 0) (h'.1 1 0 1) (h'.1 0 0 4) (h'.1 33 i) a d) 48 [some (vR 0 0), some (vR 8 i), some (vI (nI a)), some (vI (nI d)), none, none, none] [vI (nI w)] h3 := by
      intro w hw
      have hw2 : w = a ∨ w = d := by rw [hw]; unfold wnF; split; exact Or.inl rfl; exact Or.inr rfl
      refine meet_rest (l := loS2 a d w) hn (by rw [r3]; exact hR) ha hd (by omega) (by unfold loS2; omega) (by unfold loS2; omega) ⟨by rw [hw], ?_, ?_⟩
      · exact Fr.sV ((Fr.sV Fr.rf (by simp)).tr f3 (by simp)) (by simp)
      · rw [sV_same, r3, e33, e1, e0, hw]
        rfl
    refine ⟨fun c5 => fin d ?_, fun c5 => fin a ?_⟩
    · unfold wnF; rw [if_neg (by rw [b2_0.mp c5]; decide)]
    · unfold wnF; rw [if_pos (b2_n0.mp c5)]
  · have c0' : ¬ hnF n (h'.1 33 i) x y = 0 := c0
    rw [if_neg c0', if_neg c0']
    exact ⟨rfl, Fr.rf, rfl⟩
