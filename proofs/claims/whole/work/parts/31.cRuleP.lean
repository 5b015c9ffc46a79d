/-! class Rule: its parser -/
/-- the heap while rule b is read: steps g, m of them, the reading place p -/
def rH (h : Hp) (b : Nat) (g : Nat → Int32) (m p : Nat) : Hp := sA (sX (sV h 26 b g) 6 b 2 (nI m)) p
theorem sX_row {h : Hp} {k i j : Nat} {x : Int32} {k' i' : Nat} : (sX h k i j x).1 k' i' = if k' = k ∧ i' = i then upd (h.1 k i) j x else h.1 k' i' := rfl
theorem rH_at {h : Hp} {b m p q : Nat} {g : Nat → Int32} : sA (rH h b g m p) q = rH h b g m q := sX_sX
theorem rH_T {h : Hp} {b m p : Nat} {g : Nat → Int32} : (rH h b g m p).1 34 0 = h.1 34 0 := by
  unfold rH
  rw [sA_T, sX_row, if_neg (by simp), rdV, if_neg (by simp)]
theorem rH_m {h : Hp} {b m p : Nat} {g : Nat → Int32} : (rH h b g m p).1 6 b 2 = nI m := by
  unfold rH sA
  rw [rdX, if_neg (by simp), rdX, if_pos (by simp)]
theorem rH_Tx {h : Hp} {n L p0 b m p : Nat} {g : Nat → Int32} (hx : Tx h n L p0) (hp : p ≤ 200) : Tx (rH h b g m p) n L p := by
  unfold rH
  refine Tx.at (p := p0) ?_ hp
  obtain ⟨h1, h2, h3, h4⟩ := hx
  refine ⟨?_, ?_, ?_, h4⟩
  · rw [rdX, if_neg (by simp), rdVj, if_neg (by simp), h1]
  · rw [rdX, if_neg (by simp), rdVj, if_neg (by simp), h2]
  · rw [rdX, if_neg (by simp), rdVj, if_neg (by simp), h3]
theorem rH_step {h : Hp} {b m p m' : Nat} {g : Nat → Int32} {x : Int32} : sX (sX (rH h b g m p) 26 b m x) 6 b 2 (nI m') = rH h b (upd g m x) m' p := by
  refine hp_eq (fun k i => ?_) rfl
  unfold rH sA
  simp only [sX_row, rdV]
  by_cases c6 : k = 6 ∧ i = b
  · obtain ⟨rfl, rfl⟩ := c6
    simp
    funext j
    unfold upd
    split <;> simp_all
  · rw [if_neg c6]
    by_cases c26 : k = 26 ∧ i = b
    · obtain ⟨rfl, rfl⟩ := c26
      simp
    · rw [if_neg c26]
      by_cases c9 : k = 9 ∧ i = 0
      · obtain ⟨rfl, rfl⟩ := c9
        simp
      · simp [c9, c6, c26]
theorem c_step {k b m p : Nat} {h : Hp} {g : Nat → Int32} {x : Int32} (hm : m < 40) : Ct alC mX6_step k [vR 6 b, vI x] (rH h b g m p) (Rv (rH h b (upd g m x) (m + 1) p)) := by
  refine ct_vc tX6_step [] 30 okC kX6_step rfl ?_
  have e0 : (rH h b g m p).1 6 b 2 = nI m := rH_m
  refine ⟨fun c => absurd c (by rw [e0]; exact nI_ge hm (by omega)), fun _ => ⟨by rw [e0]; exact ix1 40 hm, ?_⟩⟩
  rw [e0, nI_clamp (by omega)]
  have e : (sX (rH h b g m p) 26 b m x).1 6 b 2 = nI m := by rw [rdX, if_neg (by simp), rH_m]
  show sX (sX (rH h b g m p) 26 b m x) 6 b 2 ((sX (rH h b g m p) 26 b m x).1 6 b 2 + nI 1) = _
  rw [e, nI_add]
  exact rH_step
theorem c_levelOf {k : Nat} {h : Hp} {x : Int32} : Ct alC mX6_levelOf k [vI x] h (Rd h (lvO x)) := by
  refine ct_vc tX6_levelOf [] 30 okC kX6_levelOf rfl ?_
  refine swP_of _ (fun q hq e => ?_) (fun hn => ?_)
  · simp only [prs, List.tail_cons, List.mem_cons, List.not_mem_nil, or_false] at hq
    subst e
    rcases hq with rfl | rfl | rfl | rfl | rfl | rfl | rfl | rfl | rfl | rfl | rfl | rfl | rfl | rfl | rfl | rfl | rfl | rfl | rfl | rfl | rfl <;> exact ⟨rfl, rfl⟩
  · refine ⟨?_, rfl⟩
    unfold lvO
    rw [if_neg, if_neg, if_neg]
    · exact fun z => z.elim (hn (42, 104) (by decide)) (hn (47, 104) (by decide))
    · exact fun z => z.elim (hn (43, 102) (by decide)) (hn (45, 102) (by decide))
    · exact fun z => z.elim (hn (60, 100) (by decide)) (fun z => z.elim (hn (61, 100) (by decide)) (hn (62, 100) (by decide)))
def prP (h : Hp) (b : Nat) (g : Nat → Int32) (m : Nat) (res : PRs) : AV → Hp → Prop := fun v h' => v = vI (b2 res.2.isSome) ∧ ∃ g' m', h' = rH h b g' m' res.1 ∧ ∀ c, res.2 = some c → m' = m + c.length ∧ g' = lyS g m c
/-- a reading of brackets, of a level -/
def LvOK (h : Hp) (n b K r u : Nat) : Prop := ∀ (g : Nat → Int32) (m p : Nat), m ≤ p → p ≤ 40 → Ct alC mX6_readLevel K [vR 6 b, vR 9 0, vI (nI (4 - r)), vI (nI (3 - u))] (rH h b g m p) (prP h b g m (pLv (h.1 34 0) n 40 (inn (h.1 34 0) n 40 r) u p))
theorem tkN_d {T : Nat → Int32} {n L p m : Nat} (hm : m ≤ 3) (hm1 : 1 ≤ m) (hd : (tkD T n L (nI 0) (nI 9) p).1 ≠ -(nI 1)) : ∃ w, w < 1000 ∧ (tkN T n L m p).1 = nI w := by
  obtain ⟨d, hd1, hd2, -⟩ := tkD_0 hd
  unfold tkN
  rw [tkR, if_neg (by omega), if_neg hd, hd2, if_pos rfl]
  exact tkR_0 m 1 d _ hd1 hm (by omega)
theorem tkN_p {T : Nat → Int32} {n L p m : Nat} (hm : m ≤ 3) (hm1 : 1 ≤ m) (h : (tkN T n L m p).1 = -(nI 1)) : (tkN T n L m p).2 = p := by
  by_cases hd : (tkD T n L (nI 0) (nI 9) p).1 = -(nI 1)
  · rw [tkN_none hd]
  · obtain ⟨w, hw, e⟩ := tkN_d hm hm1 hd
    rw [e] at h
    have := nI_nn hw
    rw [h] at this
    exact absurd this (by decide)
theorem tkS_0 {T : Nat → Int32} {n L p : Nat} {x : Int32} (h : b2 (tkS T n L x p).1 = 0) : ¬ pk T n L p = x ∧ tkS T n L x p = (false, p) := by
  unfold tkS at h ⊢
  split
  next c => rw [if_pos c] at h; exact absurd (show b2 true = 0 from h) (by decide)
  next c => exact ⟨c, rfl⟩
theorem tkS_1 {T : Nat → Int32} {n L p : Nat} {x : Int32} (h : ¬ b2 (tkS T n L x p).1 = 0) : pk T n L p = x ∧ tkS T n L x p = (true, p + 1) := by
  unfold tkS at h ⊢
  split
  next c => exact ⟨c, rfl⟩
  next c => rw [if_neg c] at h; exact absurd rfl h
theorem mnC_s (T : Nat → Int32) (n L f p : Nat) : mnC T n L (f + 1) p = if pk T n L p = nI 45 then mnC T n L f (p + 1) + 1 else 0 := rfl
section
variable {T : Nat → Int32} {n L p : Nat} {f : Nat → PRs} {i : Option (Nat → PRs)} {c : List Int32}
theorem pTh_0 (h : pk T n L p = nI 40) : pTh T n L none p = (p, none) := by unfold pTh; rw [if_pos h]
theorem pTh_N (h : pk T n L p = nI 40) (h2 : (f (p + 1)).2 = none) : pTh T n L (some f) p = ((f (p + 1)).1, none) := by
  unfold pTh; rw [if_pos h]; dsimp only; rw [h2]
theorem pTh_S (h : pk T n L p = nI 40) (h2 : (f (p + 1)).2 = some c) (h3 : pk T n L (f (p + 1)).1 = nI 41) : pTh T n L (some f) p = ((f (p + 1)).1 + 1, some c) := by
  unfold pTh; rw [if_pos h]; dsimp only; rw [h2]; dsimp only; rw [if_pos h3]
theorem pTh_X (h : pk T n L p = nI 40) (h2 : (f (p + 1)).2 = some c) (h3 : ¬ pk T n L (f (p + 1)).1 = nI 41) : pTh T n L (some f) p = ((f (p + 1)).1, none) := by
  unfold pTh; rw [if_pos h]; dsimp only; rw [h2]; dsimp only; rw [if_neg h3]
theorem pTh_nu (h : ¬ pk T n L p = nI 40) (h2 : ¬ (tkN T n L 3 p).1 = -(nI 1)) : pTh T n L i p = ((tkN T n L 3 p).2, some [(tkN T n L 3 p).1]) := by
  unfold pTh; rw [if_neg h, if_neg h2]
theorem pTh_le (h : ¬ pk T n L p = nI 40) (h2 : (tkN T n L 3 p).1 = -(nI 1)) (h3 : isLt (pk T n L p) = true) : pTh T n L i p = (p + 1, some [-(pk T n L p)]) := by
  unfold pTh; rw [if_neg h, if_pos h2, if_pos h3]
theorem pTh_no (h : ¬ pk T n L p = nI 40) (h2 : (tkN T n L 3 p).1 = -(nI 1)) (h3 : ¬ isLt (pk T n L p) = true) : pTh T n L i p = (p, none) := by
  unfold pTh; rw [if_neg h, if_pos h2, if_neg h3]
end
theorem b2_sN {o : Option (List Int32)} (h : b2 o.isSome = 0) : o = none := by
  cases o with
  | none => rfl
  | some c => exact absurd (show b2 true = 0 from h) (by decide)
theorem b2_sS {o : Option (List Int32)} (h : ¬ b2 o.isSome = 0) : ∃ c, o = some c := by
  cases o with
  | none => exact absurd rfl h
  | some c => exact ⟨c, rfl⟩
theorem ct_cv {al : List Ad} {M : MT} {k : Nat} {As As' : List AV} {h h' : Hp} {P : AV → Hp → Prop} (c : Ct al M k As h P) (e1 : As' = As) (e2 : h' = h) : Ct al M k As' h' P := by
  subst e1; subst e2; exact c
theorem c_thing {K r n b p m p0 : Nat} {h : Hp} {g : Nat → Int32} (hx : Tx h n 40 p0) (hm : m ≤ p) (hp : p ≤ 40) (hr : r ≤ 4) (IH : ∀ r', r = r' + 1 → LvOK h n b (K + 2) r' 3) : Ct alC mX6_readThing (K + 3) [vR 6 b, vR 9 0, vI (nI (4 - r))] (rH h b g m p) (prP h b g m (pTh (h.1 34 0) n 40 (inn (h.1 34 0) n 40 r) p)) := by
  refine ct_vc tX6_readThing [] 80 okC kX6_readThing rfl ?_
  have tx := rH_Tx (b := b) (m := m) (g := g) hx (show p ≤ 200 by omega)
  refine ⟨_, c_peek tx, ?_⟩
  rintro v h' ⟨rfl, rfl⟩
  rw [rH_T]
  refine ⟨fun c => ⟨_, c_takeNumber (m := 3) tx (by omega) (by omega), ?_⟩, fun c => ⟨fun c2 => ?_, fun c2 => ?_⟩⟩
  · rintro v h' ⟨rfl, rfl⟩
    rw [rH_T, rH_at]
    refine ⟨fun c2 => ?_, fun c2 => ⟨_, c_step (by have := (tkN_in c2).1; omega), ?_⟩⟩
    · rw [tkN_p (by omega) (by omega) c2]
      refine ⟨_, c_peek tx, ?_⟩
      rintro v h' ⟨rfl, rfl⟩
      rw [rH_T]
      refine ⟨_, c_isLetter, ?_⟩
      rintro v h' ⟨rfl, rfl⟩
      refine ⟨fun c3 => ⟨_, c_next tx, ?_⟩, fun c3 => ?_⟩
      · rintro v h' ⟨rfl, rfl⟩
        rw [rH_T, rH_at]
        have c4 := b2_n0.mp c3
        have hl : p < 40 := by
          refine (pkP (T := h.1 34 0) (n := n) (fun z => ?_)).2
          rw [z] at c4
          exact absurd c4 (by decide)
        refine ⟨_, c_step (by omega), ?_⟩
        rintro v h' rfl
        rw [pTh_le c c2 c4]
        exact ⟨Or.inr rfl, rfl, _, _, rfl, fun c hc => by cases hc; exact ⟨rfl, rfl⟩⟩
      · rw [pTh_no c c2 (by rw [b2_0.mp (nn c3)]; decide)]
        exact ⟨Or.inl rfl, rfl, _, _, rfl, fun c hc => by cases hc⟩
    · rintro v h' rfl
      rw [pTh_nu c c2]
      exact ⟨Or.inr rfl, rfl, _, _, rfl, fun c hc => by cases hc; exact ⟨rfl, rfl⟩⟩
  · have hl := pk_c (nn c) (by decide)
    cases r with
    | zero => exact absurd c2 (by decide)
    | succ r =>
      have e1 : nI (4 - (r + 1)) + nI 1 = nI (4 - r) := by rw [nI_add]; congr 1; omega
      have e2 : sX (rH h b g m p) 9 0 2 ((rH h b g m p).1 9 0 2 + nI 1) = rH h b g m (p + 1) := by rw [tx.2.1, nI_add]; exact rH_at
      refine ⟨_, ct_cv (IH r rfl g m (p + 1) (by omega) (by omega)) (congrArg (fun x => [vR 6 b, vR 9 0, vI x, vI (nI 0)]) e1) e2, ?_⟩
      rw [← pRl_eq]
      rintro v h' ⟨rfl, g', m', rfl, hc⟩
      have hran := ran_Rl (T := h.1 34 0) (n := n) (L := 40) r (p + 1) (by omega)
      have tx2 := rH_Tx (b := b) (m := m') (g := g') hx (show (pRl (h.1 34 0) n 40 r (p + 1)).1 ≤ 200 by have := hran.2.1; omega)
      have ei : inn (h.1 34 0) n 40 (r + 1) = some (pRl (h.1 34 0) n 40 r) := rfl
      rw [ei]
      refine ⟨fun c3 => ?_, fun c3 => ⟨_, c_ttake tx2, ?_⟩⟩
      · rw [pTh_N (nn c) (b2_sN c3)]
        exact ⟨Or.inl rfl, rfl, _, _, rfl, fun c hc => by cases hc⟩
      · rintro v h' ⟨rfl, rfl⟩
        rw [rH_T, rH_at]
        obtain ⟨c1, hf⟩ := b2_sS c3
        obtain ⟨rfl, rfl⟩ := hc c1 hf
        refine ⟨fun c5 => ?_, fun c5 => ?_⟩
        · obtain ⟨c6, c7⟩ := tkS_0 c5
          rw [pTh_X (nn c) hf c6, c7]
          exact ⟨Or.inl rfl, rfl, _, _, rfl, fun c hc => by cases hc⟩
        · obtain ⟨c6, c7⟩ := tkS_1 c5
          rw [pTh_S (nn c) hf c6, c7]
          exact ⟨Or.inr rfl, rfl, _, _, rfl, fun c hc => by cases hc; exact ⟨rfl, rfl⟩⟩
  · cases r with
    | succ r => exact absurd (nI_lt (by omega) (by omega)) c2
    | zero =>
      rw [show inn (h.1 34 0) n 40 0 = none from rfl, pTh_0 (nn c)]
      exact ⟨Or.inl rfl, rfl, _, _, rfl, fun c hc => by cases hc⟩
theorem c_signed {K r n b p m p0 : Nat} {h : Hp} {g : Nat → Int32} (hx : Tx h n 40 p0) (hm : m ≤ p) (hp : p ≤ 40) (hr : r ≤ 4) (IH : ∀ r', r = r' + 1 → LvOK h n b (K + 2) r' 3) : Ct alC mX6_readSigned (K + 4) [vR 6 b, vR 9 0, vI (nI (4 - r))] (rH h b g m p) (prP h b g m (pSg (h.1 34 0) n 40 (inn (h.1 34 0) n 40 r) p)) := by
  have E : ∀ q, q ≤ 40 → p + mnC (h.1 34 0) n 40 40 p = q → WP alC mX6_readSigned (K + 4) (prP h b g m (pSg (h.1 34 0) n 40 (inn (h.1 34 0) n 40 r) p)) 37 [some (vR 6 b), some (vR 9 0), some (vI (nI (4 - r))), some (vI (b2 (decide (mnC (h.1 34 0) n 40 40 p % 2 = 1)))), none] [] (rH h b g m q) := by
    intro q hq e
    refine wp_at tX6_readSigned [] 40 37 okC kX6_readSigned ⟨_, c_thing hx (by omega) hq hr IH, ?_⟩
    rintro v h' ⟨rfl, g', m', rfl, hc⟩
    unfold pSg
    rw [e]
    have hran := ran_Th (T := h.1 34 0) (n := n) (L := 40) (ran_inn (T := h.1 34 0) (n := n) r) q hq
    refine ⟨fun c => ?_, fun c => ?_⟩
    · obtain ⟨c1, hf⟩ := b2_sS c
      obtain ⟨rfl, rfl⟩ := hc c1 hf
      have h7 := (hran.2.2 c1 hf).1
      rw [hf]
      refine ⟨fun c2 => ?_, fun c2 => ⟨_, c_step ?_, ?_⟩⟩
      · rw [Option.map_some, if_neg (of_decide_eq_false (b2_0.mp c2))]
        exact ⟨Or.inr rfl, rfl, _, _, rfl, fun c hc => by cases hc; exact ⟨rfl, rfl⟩⟩
      · have := of_decide_eq_true (b2_n0.mp c2)
        have := hran.2.1
        omega
      · rintro v h' rfl
        rw [Option.map_some, if_pos (of_decide_eq_true (b2_n0.mp c2))]
        refine ⟨Or.inr rfl, rfl, _, _, rfl, fun c hc => ?_⟩
        cases hc
        rw [lyS_app, List.length_append]
        exact ⟨rfl, rfl⟩
    · rw [b2_sN (nn c)]
      exact ⟨Or.inl rfl, rfl, _, _, rfl, fun c hc => by cases hc⟩
  have L : ∀ f i q, i + f = 40 → q = p + i → p + mnC (h.1 34 0) n 40 40 p = q + mnC (h.1 34 0) n 40 f q → q ≤ 40 → WP alC mX6_readSigned (K + 4) (prP h b g m (pSg (h.1 34 0) n 40 (inn (h.1 34 0) n 40 r) p)) 5 [some (vR 6 b), some (vR 9 0), some (vI (nI (4 - r))), some (vI (b2 (decide (i % 2 = 1)))), some (vI (nI i))] [] (rH h b g m q) := by
    intro f
    induction f with
    | zero =>
      intro i q h1 h2 h3 h4
      rw [mnC] at h3
      have := E q h4 (by omega)
      rw [show mnC (h.1 34 0) n 40 40 p = i by omega] at this
      exact wp_at tX6_readSigned [(37, [true, true, true, true, false])] 10 5 okC kX6_readSigned ⟨fun _ => this, fun c => absurd (nI_le (show 40 ≤ i by omega) (by omega)) c⟩
    | succ f ih =>
      intro i q h1 h2 h3 h4
      refine wp_at tX6_readSigned [(37, [true, true, true, true, false]), (5, [true, true, true, true, true])] 40 5 okC kX6_readSigned ⟨fun c => absurd c (nI_ge (show i < 40 by omega) (by omega)), fun _ => ⟨_, c_ttake (rH_Tx hx (show q ≤ 200 by omega)), ?_⟩⟩
      rintro v h' ⟨rfl, rfl⟩
      rw [rH_T, rH_at]
      rw [mnC_s _ n 40 f q] at h3
      refine ⟨fun c => ?_, fun c => ?_⟩
      · obtain ⟨c6, c7⟩ := tkS_0 c
        rw [if_neg c6] at h3
        rw [c7]
        have := E q h4 (by omega)
        rw [show mnC (h.1 34 0) n 40 40 p = i by omega] at this
        exact this
      · obtain ⟨c6, c7⟩ := tkS_1 c
        have hl := pk_c c6 (by decide)
        rw [if_pos c6] at h3
        rw [c7]
        have := ih (i + 1) (q + 1) (by omega) (by omega) (by omega) (by omega)
        rw [← nI_add i 1] at this
        refine ⟨fun c7 => ?_, fun c7 => ?_⟩
        · have c8 := of_decide_eq_true (b2_n0.mp c7)
          rw [dF (show ¬ (i + 1) % 2 = 1 by omega)] at this
          exact this
        · have c8 := of_decide_eq_false (b2_0.mp (nn c7))
          rw [dT (show (i + 1) % 2 = 1 by omega)] at this
          exact this
  refine ct_vc tX6_readSigned [(5, [true, true, true, true, true])] 20 okC kX6_readSigned rfl ?_
  exact L 40 0 p rfl rfl rfl hp
section
variable {T : Nat → Int32} {n L p u f lv : Nat} {sub : Nat → PRs} {i : Option (Nat → PRs)} {c c2 : List Int32}
theorem pOp_no (h : ¬ lvO (pk T n L p) = nI lv) : pOp T n L sub lv f p c = (p, some c) := by
  cases f with
  | zero => rfl
  | succ f => rw [pOp, if_neg h]
theorem pOp_N (h : lvO (pk T n L p) = nI lv) (h2 : (sub (p + 1)).2 = none) : pOp T n L sub lv (f + 1) p c = ((sub (p + 1)).1, none) := by
  rw [pOp, if_pos h, h2]
theorem pOp_S (h : lvO (pk T n L p) = nI lv) (h2 : (sub (p + 1)).2 = some c2) : pOp T n L sub lv (f + 1) p c = pOp T n L sub lv f (sub (p + 1)).1 (c ++ c2 ++ [-(pk T n L p)]) := by
  rw [pOp, if_pos h, h2]
theorem pLv_N (h : (pLv T n L i u p).2 = none) : pLv T n L i (u + 1) p = ((pLv T n L i u p).1, none) := by
  rw [pLv, h]
theorem pLv_S (h : (pLv T n L i u p).2 = some c) : pLv T n L i (u + 1) p = pOp T n L (pLv T n L i u) (2 - u) (if u = 2 then 1 else 40) (pLv T n L i u p).1 c := by
  rw [pLv, h]
end
theorem c_level1 {h : Hp} {n b p0 r u K : Nat} (hx : Tx h n 40 p0) (hr : r ≤ 4) (hu : u ≤ 2) (IH : LvOK h n b (K + 2) r u) : LvOK h n b (K + 3) r (u + 1) := by
  intro g m p hm hp
  have e3 : 3 - (u + 1) = 2 - u := by omega
  have e4 : nI (2 - u) + nI 1 = nI (3 - u) := by rw [nI_add]; congr 1; omega
  rw [e3]
  have hi : ∀ f, inn (h.1 34 0) n 40 r = some f → RanF 40 f := ran_inn r
  have hsub := ran_Lv (T := h.1 34 0) (n := n) hi u
  have L : ∀ f i q c, i + f = (if u = 2 then 1 else 40) → q ≤ 40 → p + c.length ≤ q → 1 ≤ c.length → pLv (h.1 34 0) n 40 (inn (h.1 34 0) n 40 r) (u + 1) p = pOp (h.1 34 0) n 40 (pLv (h.1 34 0) n 40 (inn (h.1 34 0) n 40 r) u) (2 - u) f q c → WP alC mX6_readLevel (K + 3) (prP h b g m (pLv (h.1 34 0) n 40 (inn (h.1 34 0) n 40 r) (u + 1) p)) 41 [some (vR 6 b), some (vR 9 0), some (vI (nI (4 - r))), some (vI (nI (2 - u))), some (vI (nI (if u = 2 then 1 else 40))), some (vI (nI i)), none] [] (rH h b (lyS g m c) (m + c.length) q) := by
    intro f
    have hm40 : (if u = 2 then 1 else 40) ≤ 40 := by split <;> omega
    induction f with
    | zero =>
      intro i q c h1 h2 h3 h4 e
      refine wp_at tX6_readLevel [] 20 41 okC kX6_readLevel ⟨fun _ => ?_, fun c => absurd (nI_le (by omega) (by omega)) c⟩
      rw [e]
      exact ⟨Or.inr rfl, rfl, _, _, rfl, fun c hc => by cases hc; exact ⟨rfl, rfl⟩⟩
    | succ f ih =>
      intro i q c h1 h2 h3 h4 e
      have tx := rH_Tx (b := b) (m := m + c.length) (g := lyS g m c) hx (show q ≤ 200 by omega)
      refine wp_at tX6_readLevel [(41, [true, true, true, true, true, true, false])] 60 41 okC kX6_readLevel ⟨fun c => absurd c (nI_ge (by omega) (by omega)), fun _ => ⟨_, c_peek tx, ?_⟩⟩
      rintro v h' ⟨rfl, rfl⟩
      rw [rH_T]
      refine ⟨_, c_levelOf, ?_⟩
      rintro v h' ⟨rfl, rfl⟩
      refine ⟨fun c1 => ?_, fun c1 => ?_⟩
      · have hl : q < 40 := by
          refine (pkP (T := h.1 34 0) (n := n) (fun z => ?_)).2
          rw [z] at c1
          have : u = 0 ∨ u = 1 ∨ u = 2 := by omega
          rcases this with rfl | rfl | rfl <;> exact absurd c1 (by decide)
        have e2 : sX (rH h b (lyS g m c) (m + c.length) q) 9 0 2 ((rH h b (lyS g m c) (m + c.length) q).1 9 0 2 + nI 1) = rH h b (lyS g m c) (m + c.length) (q + 1) := by rw [tx.2.1, nI_add]; exact rH_at
        refine ⟨_, ct_cv (IH (lyS g m c) (m + c.length) (q + 1) (by omega) (by omega)) (congrArg (fun x => [vR 6 b, vR 9 0, vI (nI (4 - r)), vI x]) e4) e2, ?_⟩
        rintro v h' ⟨rfl, g', m', rfl, hc⟩
        have hran := hsub (q + 1) (by omega)
        refine ⟨fun c2 => ?_, fun c2 => ?_⟩
        · obtain ⟨c5, hf⟩ := b2_sS c2
          obtain ⟨rfl, rfl⟩ := hc c5 hf
          have h7 := hran.2.2 c5 hf
          have h8 := hran.2.1
          refine ⟨_, c_step (by omega), ?_⟩
          rintro v h' rfl
          rw [pOp_S c1 hf] at e
          have := ih (i + 1) _ _ (by omega) h8 (by simp; omega) (by simp; omega) e
          rw [← nI_add i 1, List.append_assoc, lyS_app, lyS_app] at this
          have e9 : (c ++ (c5 ++ [-(pk (h.1 34 0) n 40 q)])).length = c.length + c5.length + 1 := by simp; omega
          rw [e9, show m + (c.length + c5.length + 1) = m + c.length + c5.length + 1 by omega] at this
          exact this
        · have hf := b2_sN (nn c2)
          rw [e, pOp_N c1 hf]
          exact ⟨Or.inl rfl, rfl, _, _, rfl, fun c hc => by cases hc⟩
      · rw [e, pOp_no c1]
        exact ⟨Or.inr rfl, rfl, _, _, rfl, fun c hc => by cases hc; exact ⟨rfl, rfl⟩⟩
  refine ct_vc tX6_readLevel [(41, [true, true, true, true, true, true, false])] 60 okC kX6_readLevel rfl ?_
  refine ⟨fun _ => ⟨_, ct_cv (IH g m p hm hp) (congrArg (fun x => [vR 6 b, vR 9 0, vI (nI (4 - r)), vI x]) e4) rfl, ?_⟩, fun c => absurd (nI_le (by omega) (by omega)) c⟩
  rintro v h' ⟨rfl, g', m', rfl, hc⟩
  have hran := hsub p hp
  refine ⟨fun c2 => ?_, fun c2 => ?_⟩
  · obtain ⟨c5, hf⟩ := b2_sS c2
    obtain ⟨rfl, rfl⟩ := hc c5 hf
    have h7 := hran.2.2 c5 hf
    have h8 := hran.2.1
    have := L (if u = 2 then 1 else 40) 0 _ c5 (by omega) h8 h7.1 h7.2 (pLv_S hf)
    refine ⟨fun c3 => ?_, fun c3 => ?_⟩
    · have hu2 : ¬ u = 2 := fun z => c3 (by rw [z]; rfl)
      rw [if_neg hu2] at this
      exact this
    · have hu2 : u = 2 := by
        have := (nI_eq (by omega) (by omega)).mp (show nI (2 - u) = nI 0 from nn c3)
        omega
      rw [if_pos hu2] at this
      exact this
  · have hf := b2_sN (nn c2)
    rw [pLv_N hf]
    exact ⟨Or.inl rfl, rfl, _, _, rfl, fun c hc => by cases hc⟩
theorem c_level0 {h : Hp} {n b p0 r K : Nat} (hx : Tx h n 40 p0) (hr : r ≤ 4) (IH : ∀ r', r = r' + 1 → LvOK h n b (K + 2) r' 3) : LvOK h n b (K + 5) r 0 := by
  intro g m p hm hp
  refine ct_vc tX6_readLevel [] 20 okC kX6_readLevel rfl ?_
  refine ⟨fun c => absurd c (by decide), fun _ => ⟨_, c_signed hx hm hp hr IH, ?_⟩⟩
  rintro v h' ⟨rfl, g', m', rfl, hc⟩
  exact ⟨b2_01 _, rfl, g', m', rfl, hc⟩
theorem c_level {h : Hp} {n b p0 : Nat} (hx : Tx h n 40 p0) : ∀ r K, r ≤ 4 → 6 * r + 8 ≤ K → LvOK h n b K r 3 := by
  intro r
  induction r with
  | zero =>
    intro K hr hK
    obtain ⟨K, rfl⟩ : ∃ K', K = K' + 8 := ⟨K - 8, by omega⟩
    exact c_level1 hx hr (by omega) (c_level1 (K := K + 4) hx hr (by omega) (c_level1 (K := K + 3) hx hr (by omega) (c_level0 hx hr (fun r' e => by omega))))
  | succ r ih =>
    intro K hr hK
    obtain ⟨K, rfl⟩ : ∃ K', K = K' + 8 := ⟨K - 8, by omega⟩
    exact c_level1 hx hr (by omega) (c_level1 (K := K + 4) hx hr (by omega) (c_level1 (K := K + 3) hx hr (by omega) (c_level0 hx hr (fun r' e => by cases e; exact ih _ (by omega) (by omega)))))
