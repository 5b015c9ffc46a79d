/-! the class's calls: rests, odds, till, career, years -/
/-- a loop over i .. i + f - 1 -/
def lpG {σ : Type} (F : Nat → σ → σ) : Nat → Nat → σ → σ
  | 0, _, q => q
  | f + 1, i, q => lpG F f (i + 1) (F i q)
theorem lpG_s {σ : Type} (F : Nat → σ → σ) (f i : Nat) (q : σ) : lpG F (f + 1) i q = lpG F f (i + 1) (F i q) := rfl
def shrF (a b v : Int32) : Int32 := if a = b then v / nI 2 + a else if a < b then v + a else b
theorem c_share {k : Nat} {h : Hp} {x y v : Int32} : Ct alC mX11_share k [vI x, vI y, vI v] h (Rd h (shrF x y v)) := by
  refine ct_vc tX11_share [] 40 okC kX11_share rfl ?_
  unfold shrF
  refine ⟨fun c => ⟨fun c2 => ⟨?_, rfl⟩, fun c2 => ⟨?_, rfl⟩⟩, fun c => ⟨by decide, ?_, rfl⟩⟩
  · rw [if_neg c, if_neg (i_ltn c2)]
  · rw [if_neg c, if_pos (i_nle c2)]
  · rw [if_pos (nn c)]
def bbB (x y v : Int32) : Bool := alF (fun m => !decide (shrF x y v < shrF (nI m) y v)) 10
theorem c_isBestBreak {k : Nat} {h : Hp} {x y v : Int32} : Ct alC mX11_isBestBreak (k + 1) [vI x, vI y, vI v] h (Rd h (b2 (bbB x y v))) := by
  have L : ∀ t, t ≤ 10 → (∀ j, j < t → (!decide (shrF x y v < shrF (nI j) y v)) = true) → WP alC mX11_isBestBreak (k + 1) (Rd h (b2 (bbB x y v))) 2 [some (vI x), some (vI y), some (vI v), some (vI (nI t))] [] h := by
    refine loop_up 10 ?_ (fun t ht ih => ?_)
    · intro hj
      refine wp_at tX11_isBestBreak [] 20 2 okC kX11_isBestBreak ⟨fun _ => ⟨Or.inr rfl, bT (alF_iff.mpr hj), rfl⟩, fun c => absurd (nI_le (Nat.le_refl 10) (by omega)) c⟩
    · intro hj
      refine wp_at tX11_isBestBreak [(2, [true, true, true, true])] 40 2 okC kX11_isBestBreak ⟨fun c => absurd c (nI_ge ht (by omega)), fun _ => ⟨_, c_share, ?_⟩⟩
      rintro v1 h1 ⟨rfl, rfl⟩
      refine ⟨_, c_share, ?_⟩
      rintro v1 h1 ⟨rfl, rfl⟩
      refine ⟨fun c => ?_, fun c => ⟨Or.inl rfl, bF (alF_no (i := t) ?_ ht), rfl⟩⟩
      · rw [← nI_add t 1] at ih
        refine ih (fun j hj2 => ?_)
        by_cases e : j = t
        · subst e; rw [dF (i_ltn c)]; rfl
        · exact hj j (by omega)
      · rw [dT (i_nle c)]; rfl
  refine ct_vc tX11_isBestBreak [(2, [true, true, true, true])] 20 okC kX11_isBestBreak rfl ?_
  exact L 0 (Nat.zero_le _) (fun j hj => by omega)
abbrev Rs : Type := Nat × List Int64
def rsS (v : Int32) (x y : Nat) (q : Rs) : Rs := if bbB (nI x) (nI y) v = true ∧ bbB (nI y) (nI x) v = true then (q.1 + 1, if q.1 = 0 then [(nI x).toInt64, (nI y).toInt64] else q.2) else q
def rsO (v : Int32) (x : Nat) (q : Rs) : Rs := lpG (rsS v x) 10 0 q
def rsR (v : Int32) : Rs := lpG (rsO v) 10 0 (0, [])
def aRests (v : Int32) : Int32 := if okH v = true then nI (rsR v).1 else -(nI 1)
def nRests (g : GS) (v : Int32) : GS := if okH v = true then uL g (rsR v).2 else g
theorem c_Rests {k : Nat} {h : Hp} {g : GS} {v : Int32} (a : CI h g) : Ct alC mX11_rests (k + 2) [vR 11 0, vI v] h (fun x h' => x = vI (aRests v) ∧ CI h' (nRests g v)) := by
  have NO : ¬ okH v = true → WP alC mX11_rests (k + 2) (fun x h' => x = vI (aRests v) ∧ CI h' (nRests g v)) 10 [none, none, none, none, none] [] h := by
    intro hno
    refine wp_at tX11_rests [] 10 10 okC kX11_rests ?_
    unfold aRests nRests
    rw [if_neg hno, if_neg hno]
    exact ⟨rfl, a⟩
  have OU : okH v = true → ∀ f i q h1, i + f = 10 → rsR v = lpG (rsO v) f i q → q.1 ≤ 10 * i → (q.1 = 0 → q.2 = []) → CI h1 (uL g q.2) → WP alC mX11_rests (k + 2) (fun x h' => x = vI (aRests v) ∧ CI h' (nRests g v)) 23 [some (vR 11 0), some (vI v), some (vI (nI q.1)), some (vI (nI i)), none] [] h1 := by
    intro hok f
    unfold aRests nRests
    rw [if_pos hok, if_pos hok]
    induction f with
    | zero =>
      intro i q h1 hi e h2 h3 a1
      refine wp_at tX11_rests [] 20 23 okC kX11_rests ⟨fun _ => ?_, fun c => absurd (nI_le (show 10 ≤ i by omega) (by omega)) c⟩
      rw [e]
      exact ⟨rfl, a1⟩
    | succ f IH =>
      intro i q h1 hi e h2 h3 a1
      have IN : ∀ f' j q h1, j + f' = 10 → rsR v = lpG (rsO v) f (i + 1) (lpG (rsS v i) f' j q) → q.1 ≤ 10 * i + j → (q.1 = 0 → q.2 = []) → CI h1 (uL g q.2) → WP alC mX11_rests (k + 2) (fun x h' => x = vI (nI (rsR v).1) ∧ CI h' (uL g (rsR v).2)) 32 [some (vR 11 0), some (vI v), some (vI (nI q.1)), some (vI (nI i)), some (vI (nI j))] [] h1 := by
        intro f'
        induction f' with
        | zero =>
          intro j q h1 hj e h2 h3 a1
          have := IH (i + 1) q h1 (by omega) e (by omega) h3 a1
          rw [← nI_add i 1] at this
          exact wp_at tX11_rests [(23, [true, true, true, true, false])] 20 32 okC kX11_rests ⟨fun _ => this, fun c => absurd (nI_le (show 10 ≤ j by omega) (by omega)) c⟩
        | succ f' IH2 =>
          intro j q h1 hj e h2 h3 a1
          rw [lpG_s] at e
          have G : WP alC mX11_rests (k + 2) (fun x h' => x = vI (nI (rsR v).1) ∧ CI h' (uL g (rsR v).2)) 88 [some (vR 11 0), some (vI v), some (vI (nI q.1)), some (vI (nI i)), some (vI (nI j))] [] h1 ∨ (bbB (nI i) (nI j) v = true ∧ bbB (nI j) (nI i) v = true) := by
            by_cases c : bbB (nI i) (nI j) v = true ∧ bbB (nI j) (nI i) v = true
            · exact Or.inr c
            · left
              have es : rsS v i j q = q := if_neg c
              rw [es] at e
              have := IH2 (j + 1) q h1 (by omega) e (by omega) h3 a1
              rw [← nI_add j 1] at this
              exact wp_at tX11_rests [(32, [true, true, true, true, true])] 20 88 okC kX11_rests this
          refine wp_at tX11_rests [(88, [true, true, true, true, true]), (85, [true, true, true, true, true])] 60 32 okC kX11_rests ⟨fun c => absurd c (nI_ge (by omega) (by omega)), fun _ => ⟨_, c_isBestBreak, ?_⟩⟩
          rintro v1 h2' ⟨rfl, rfl⟩
          refine ⟨fun c => G.resolve_right (fun w => by rw [w.1] at c; exact absurd c (by decide)), fun c => ⟨_, c_isBestBreak, ?_⟩⟩
          rintro v1 h2' ⟨rfl, rfl⟩
          refine ⟨fun c2 => ?_, fun c2 => G.resolve_right (fun w => by rw [w.2] at c2; exact absurd (nn c2) (by decide))⟩
          have es : rsS v i j q = (q.1 + 1, if q.1 = 0 then [(nI i).toInt64, (nI j).toInt64] else q.2) := if_pos ⟨b2_n0.mp c, b2_n0.mp c2⟩
          rw [es] at e
          have F : ∀ h3, CI h3 (uL g (if q.1 = 0 then [(nI i).toInt64, (nI j).toInt64] else q.2)) → WP alC mX11_rests (k + 2) (fun x h' => x = vI (nI (rsR v).1) ∧ CI h' (uL g (rsR v).2)) 85 [some (vR 11 0), some (vI v), some (vI (nI q.1)), some (vI (nI i)), some (vI (nI j))] [] h3 := by
            intro h3 a3
            have := IH2 (j + 1) _ h3 (by omega) e (by show q.1 + 1 ≤ _; omega) (fun w => by have w' : q.1 + 1 = 0 := w; omega) a3
            rw [← nI_add j 1] at this
            have t2 : nI (q.1 + 1) = nI q.1 + nI 1 := (nI_add _ _).symm
            dsimp only at this
            rw [t2] at this
            exact wp_at tX11_rests [(32, [true, true, true, true, true])] 20 85 okC kX11_rests this
          refine ⟨fun c3 => F _ ?_, fun c3 => ⟨_, c_addG a1 ?_, ?_⟩⟩
          · have : ¬ q.1 = 0 := fun w => c3 (by rw [w]; rfl)
            rw [if_neg this]; exact a1
          · have w : q.1 = 0 := nI_inj (by omega) (by omega) (nn c3)
            show q.2.length < 8
            rw [h3 w]; decide
          · have w : q.1 = 0 := nI_inj (by omega) (by omega) (nn c3)
            rintro v1 h4 ⟨a4, -⟩
            refine ⟨_, c_addG a4 (by show (q.2 ++ [_]).length < 8; rw [h3 w, List.length_append]; exact (by decide : 0 + 1 < 8)), ?_⟩
            rintro v1 h5 ⟨a5, -⟩
            refine F h5 ?_
            rw [if_pos w]
            have a6 : CI h5 (uL g (q.2 ++ [(nI i).toInt64] ++ [(nI j).toInt64])) := a5
            rw [h3 w] at a6
            exact a6
      refine wp_at tX11_rests [(32, [true, true, true, true, true])] 20 23 okC kX11_rests ⟨fun c => absurd c (nI_ge (by omega) (by omega)), fun _ => ?_⟩
      exact IN 10 0 q h1 rfl e (by omega) h3 a1
  refine ct_vc tX11_rests [(10, [false, false, false, false, false]), (23, [true, true, true, true, false])] 40 okC kX11_rests rfl ?_
  refine ⟨fun c => NO (fun w => by unfold okH at w; rw [dF (i_len c)] at w; cases w), fun c => ⟨fun c2 => ⟨_, c_clrG a, ?_⟩, fun c2 => NO (fun w => by unfold okH at w; rw [dF c2, Bool.and_false] at w; cases w)⟩⟩
  rintro v1 h1 ⟨a1, -⟩
  exact OU (by unfold okH; rw [dT (i_nlt c), dT c2]; rfl) 10 0 (0, []) h1 rfl rfl (Nat.le_refl _) (fun _ => rfl) a1
/-- powers and ways -/
def pwF (v : Int64) : Nat → Int64
  | 0 => lN 1
  | n + 1 => pwF v n * v
theorem c_power {k n : Nat} {h : Hp} {v : Int64} (hn : n < 100) : Ct alC mX11_power k [vL v, vI (nI n)] h (fun x h' => x = vL (pwF v n) ∧ h' = h) := by
  have L : ∀ t, t ≤ n → WP alC mX11_power k (fun x h' => x = vL (pwF v n) ∧ h' = h) 5 [some (vL v), none, some (vI (nI n)), some (vL (pwF v t)), none, some (vI (nI t))] [] h := by
    refine loop_up n ?_ (fun t ht ih => ?_)
    · exact wp_at tX11_power [] 20 5 okC kX11_power ⟨fun _ => ⟨rfl, rfl⟩, fun c => absurd (nI_le (Nat.le_refl n) (by omega)) c⟩
    · rw [pwF, ← nI_add t 1] at ih
      exact wp_at tX11_power [(5, [true, false, true, true, false, true])] 30 5 okC kX11_power ⟨fun c => absurd c (nI_ge ht (by omega)), fun _ => ih⟩
  refine ct_vc tX11_power [(5, [true, false, true, true, false, true])] 30 okC kX11_power rfl ?_
  exact L 0 (Nat.zero_le _)
def wyF (n : Int32) : Nat → Int64
  | 0 => lN 1
  | i + 1 => wyF n i * (n - nI i).toInt64 / (nI (i + 1)).toInt64
theorem i64_n0 : ∀ i, i < 100 → ¬ (nI (i + 1)).toInt64 = 0 := by decide +kernel
theorem c_ways {k m : Nat} {h : Hp} {n : Int32} (hm : m < 100) : Ct alC mX11_ways k [vI n, vI (nI m)] h (fun x h' => x = vL (wyF n m) ∧ h' = h) := by
  have L : ∀ t, t ≤ m → WP alC mX11_ways k (fun x h' => x = vL (wyF n m) ∧ h' = h) 5 [some (vI n), some (vI (nI m)), some (vL (wyF n t)), none, some (vI (nI t))] [] h := by
    refine loop_up m ?_ (fun t ht ih => ?_)
    · exact wp_at tX11_ways [] 20 5 okC kX11_ways ⟨fun _ => ⟨rfl, rfl⟩, fun c => absurd (nI_le (Nat.le_refl m) (by omega)) c⟩
    · rw [wyF] at ih
      have h0 := i64_n0 t (by omega)
      rw [← nI_add t 1] at ih h0
      exact wp_at tX11_ways [(5, [true, true, true, false, true])] 30 5 okC kX11_ways ⟨fun c => absurd c (nI_ge ht (by omega)), fun _ => ⟨h0, ih⟩⟩
  refine ct_vc tX11_ways [(5, [true, true, true, false, true])] 30 okC kX11_ways rfl ?_
  exact L 0 (Nat.zero_le _)
def inB (lo hi x : Int32) : Bool := decide (lo ≤ x) && decide (x ≤ hi)
theorem inB_get {a b : Nat} {x : Int32} (h : inB (nI a) (nI b) x = true) (hb : b < 2 ^ 31) (ha : a ≤ b) : ∃ j, a ≤ j ∧ j ≤ b ∧ x = nI j := by
  unfold inB at h
  obtain ⟨h1, h2⟩ := and3 h
  have h1 := of_decide_eq_true h1
  have h2 := of_decide_eq_true h2
  have h3 : ¬ x < 0 := by
    intro w
    have w2 : nI a < 0 := Int32.lt_of_le_of_lt h1 w
    exact nI_pos (by omega) w2
  obtain ⟨j, hj, rfl⟩ := nI_of h3
  exact ⟨j, (nI_leI (by omega) hj).mp h1, (nI_leI hj hb).mp h2, rfl⟩
theorem inB_1 {lo hi x : Int32} (c : x < lo) : ¬ inB lo hi x = true := fun w => absurd (of_decide_eq_true (and3 w).1) (i_len c)
theorem inB_2 {lo hi x : Int32} (c : hi < x) : ¬ inB lo hi x = true := fun w => absurd (of_decide_eq_true (and3 w).2) (i_len c)
theorem inB_y {lo hi x : Int32} (c : ¬ x < lo) (c2 : ¬ hi < x) : inB lo hi x = true := by unfold inB; rw [dT (i_nlt c), dT (i_nlt c2)]; rfl
theorem cmD_n0 {a b : Int64} : ¬ cmD a b = 0 := by
  unfold cmD
  split
  next => decide
  next c => intro w; rw [w] at c; exact c (by decide)
theorem c_frG {k : Nat} {h : Hp} {g : GS} {x y : Int64} (a : CI h g) (hl : gL g = []) : Ct alC mX5_addFraction (k + 2) [vR 5 0, vL x, vL y] h (fun _ h' => CI h' (uL g [x / cmD x y, y / cmD x y])) := by
  have e0 : (gL g).length = 0 := by rw [hl]; rfl
  refine ct_post (c_addFraction (m := 0) (by rw [a.2.2.2.2.1.1, e0]) (by decide) cmD_n0) ?_
  rintro v h' rfl
  have a1 := a.add (x := x / cmD x y)
  rw [e0] at a1
  have a2 := a1.add (x := y / cmD x y)
  have e1 : (gL (uL g (gL g ++ [x / cmD x y]))).length = 1 := by show (gL g ++ [_]).length = 1; rw [hl]; rfl
  rw [e1] at a2
  have a3 : CI _ (uL g ((gL g ++ [x / cmD x y]) ++ [y / cmD x y])) := a2
  rw [hl] at a3
  exact a3
/-- sums of longs -/
def smL (g : Nat → Int64) : Nat → Int64
  | 0 => lN 0
  | n + 1 => smL g n + g n
def odT (n p w : Nat) : Int64 := wyF (nI n) w * pwF (nI p).toInt64 w * pwF (nI 10 - nI p).toInt64 (n - w)
def odL (n k p : Nat) : Int64 := smL (fun i => odT n p (k + i)) (n + 1 - k)
def okO (n k p : Int32) : Bool := inB (nI 1) (nI 10) n && inB (nI 0) (nI 10) k && inB (nI 0) (nI 10) p
def frL (x y : Int64) : List Int64 := [x / cmD x y, y / cmD x y]
def aOdds (n k p : Int32) : Int32 := if okO n k p = true then nI 0 else -(nI 1)
def nOdds (g : GS) (n k p : Int32) : GS := if okO n k p = true then uL g (frL (odL n.toNatClampNeg k.toNatClampNeg p.toNatClampNeg) (pwF (lN 10) n.toNatClampNeg)) else g
theorem c_Odds {K : Nat} {h : Hp} {g : GS} {n k p : Int32} (a : CI h g) : Ct alC mX11_odds (K + 3) [vR 11 0, vI n, vI k, vI p] h (fun x h' => x = vI (aOdds n k p) ∧ CI h' (nOdds g n k p)) := by
  have NO : ¬ okO n k p = true → WP alC mX11_odds (K + 3) (fun x h' => x = vI (aOdds n k p) ∧ CI h' (nOdds g n k p)) 31 [none, none, none, none, none, none, none] [] h := by
    intro hno
    refine wp_at tX11_odds [] 10 31 okC kX11_odds ?_
    unfold aOdds nOdds
    rw [if_neg hno, if_neg hno]
    exact ⟨rfl, a⟩
  have n1 : ¬ inB (nI 1) (nI 10) n = true → ¬ okO n k p = true := fun q w => q (and3 (and3 w).1).1
  have n2 : ¬ inB (nI 0) (nI 10) k = true → ¬ okO n k p = true := fun q w => q (and3 (and3 w).1).2
  have n3 : ¬ inB (nI 0) (nI 10) p = true → ¬ okO n k p = true := fun q w => q (and3 w).2
  refine ct_vc tX11_odds [(31, [false, false, false, false, false, false, false]), (33, [true, true, true, true, false, false, false])] 60 okC kX11_odds rfl ?_
  refine ⟨fun c => NO (n1 (inB_1 c)), fun c => ⟨fun c2 => NO (n1 (inB_2 c2)), fun c2 => ⟨fun c3 => NO (n2 (inB_1 c3)), fun c3 => ⟨fun c4 => NO (n2 (inB_2 c4)), fun c4 => ⟨fun c5 => NO (n3 (inB_1 c5)), fun c5 => ⟨fun c6 => ?_, fun c6 => NO (n3 (inB_2 (i_nle c6)))⟩⟩⟩⟩⟩⟩
  have q1 := inB_y c c2
  have q2 : inB (nI 0) (nI 10) k = true := inB_y c3 c4
  have q3 : inB (nI 0) (nI 10) p = true := inB_y c5 (i_ltn c6)
  have hok : okO n k p = true := by unfold okO; rw [q1, q2, q3]; rfl
  unfold aOdds nOdds
  rw [if_pos hok, if_pos hok]
  obtain ⟨n', hn1, hn2, rfl⟩ := inB_get q1 (by omega) (by omega)
  obtain ⟨k', -, hk2, rfl⟩ := inB_get q2 (by omega) (by omega)
  obtain ⟨p', -, hp2, rfl⟩ := inB_get q3 (by omega) (by omega)
  rw [nI_clamp (show n' < 2 ^ 31 by omega), nI_clamp (show k' < 2 ^ 31 by omega), nI_clamp (show p' < 2 ^ 31 by omega)]
  have FIN : ∀ w, n' < w → w < 100 → WP alC mX11_odds (K + 3) (fun x h' => x = vI (nI 0) ∧ CI h' (uL g (frL (odL n' k' p') (pwF (lN 10) n')))) 39 [some (vR 11 0), some (vI (nI n')), some (vI (nI k')), some (vI (nI p')), some (vL (odL n' k' p')), none, some (vI (nI w))] [] h := by
    intro w hw hw2
    refine wp_at tX11_odds [] 40 39 okC kX11_odds ⟨fun _ => ⟨_, c_clrG a, ?_⟩, fun c => absurd (nI_lt hw (by omega)) c⟩
    rintro v h1 ⟨a1, -⟩
    refine ⟨_, c_power (by omega), ?_⟩
    rintro v h2 ⟨rfl, rfl⟩
    refine ⟨_, c_frG a1 rfl, ?_⟩
    rintro v h3 a3
    exact ⟨rfl, a3⟩
  have L : k' ≤ n' → ∀ t, t ≤ n' + 1 - k' → WP alC mX11_odds (K + 3) (fun x h' => x = vI (nI 0) ∧ CI h' (uL g (frL (odL n' k' p') (pwF (lN 10) n')))) 39 [some (vR 11 0), some (vI (nI n')), some (vI (nI k')), some (vI (nI p')), some (vL (smL (fun i => odT n' p' (k' + i)) t)), none, some (vI (nI (k' + t)))] [] h := by
    intro hkn
    refine loop_up (n' + 1 - k') (FIN _ (by omega) (by omega)) (fun t ht ih => ?_)
    rw [smL, ← Nat.add_assoc, ← nI_add (k' + t) 1] at ih
    refine wp_at tX11_odds [(39, [true, true, true, true, true, false, true])] 60 39 okC kX11_odds ⟨fun c => absurd c (nI_nlt (by omega) (by omega)), fun _ => ⟨_, c_ways (by omega), ?_⟩⟩
    rintro v h1 ⟨rfl, rfl⟩
    refine ⟨_, c_power (by omega), ?_⟩
    rintro v h1 ⟨rfl, rfl⟩
    refine ⟨_, ct_cv (c_power (n := n' - (k' + t)) (by omega)) (congrArg (fun x => [vL (nI 10 - nI p').toInt64, vI x]) (pk_sub (by omega))) rfl, ?_⟩
    rintro v h1 ⟨rfl, rfl⟩
    exact ih
  refine wp_at tX11_odds [(39, [true, true, true, true, true, false, true])] 20 33 okC kX11_odds ?_
  rcases Nat.lt_or_ge n' k' with c7 | c7
  · have e0 : odL n' k' p' = lN 0 := by unfold odL; rw [show n' + 1 - k' = 0 by omega]; rfl
    have := FIN k' c7 (by omega)
    rw [e0] at this ⊢
    exact this
  · exact L c7 0 (Nat.zero_le _)
def tiT (a b p j : Nat) : Int64 := wyF (nI (a - 1 + j)) j * pwF (nI p).toInt64 a * pwF (nI 10 - nI p).toInt64 j * pwF (lN 10) (b - 1 - j)
def tiL (a b p : Nat) : Int64 := smL (tiT a b p) b
def okT (a b p : Int32) : Bool := inB (nI 1) (nI 6) a && inB (nI 1) (nI 6) b && inB (nI 0) (nI 10) p
def aTill (n k p : Int32) : Int32 := if okT n k p = true then nI 0 else -(nI 1)
def nTill (g : GS) (n k p : Int32) : GS := if okT n k p = true then uL g (frL (tiL n.toNatClampNeg k.toNatClampNeg p.toNatClampNeg) (pwF (lN 10) (n.toNatClampNeg + k.toNatClampNeg - 1))) else g
theorem c_Till {K : Nat} {h : Hp} {g : GS} {n k p : Int32} (a : CI h g) : Ct alC mX11_till (K + 3) [vR 11 0, vI n, vI k, vI p] h (fun x h' => x = vI (aTill n k p) ∧ CI h' (nTill g n k p)) := by
  have NO : ¬ okT n k p = true → WP alC mX11_till (K + 3) (fun x h' => x = vI (aTill n k p) ∧ CI h' (nTill g n k p)) 32 [none, none, none, none, none, none, none, none, none] [] h := by
    intro hno
    refine wp_at tX11_till [] 10 32 okC kX11_till ?_
    unfold aTill nTill
    rw [if_neg hno, if_neg hno]
    exact ⟨rfl, a⟩
  have n1 : ¬ inB (nI 1) (nI 6) n = true → ¬ okT n k p = true := fun q w => q (and3 (and3 w).1).1
  have n2 : ¬ inB (nI 1) (nI 6) k = true → ¬ okT n k p = true := fun q w => q (and3 (and3 w).1).2
  have n3 : ¬ inB (nI 0) (nI 10) p = true → ¬ okT n k p = true := fun q w => q (and3 w).2
  refine ct_vc tX11_till [(32, [false, false, false, false, false, false, false, false, false]), (34, [true, true, true, true, false, false, false, false, false])] 60 okC kX11_till rfl ?_
  refine ⟨fun c => NO (n1 (inB_1 c)), fun c => ⟨fun c2 => NO (n1 (inB_2 c2)), fun c2 => ⟨fun c3 => NO (n2 (inB_1 c3)), fun c3 => ⟨fun c4 => NO (n2 (inB_2 c4)), fun c4 => ⟨fun c5 => NO (n3 (inB_1 c5)), fun c5 => ⟨fun c6 => ?_, fun c6 => NO (n3 (inB_2 (i_nle c6)))⟩⟩⟩⟩⟩⟩
  have q1 := inB_y c c2
  have q2 := inB_y c3 c4
  have q3 : inB (nI 0) (nI 10) p = true := inB_y c5 (i_ltn c6)
  have hok : okT n k p = true := by unfold okT; rw [q1, q2, q3]; rfl
  unfold aTill nTill
  rw [if_pos hok, if_pos hok]
  obtain ⟨n', hn1, hn2, rfl⟩ := inB_get q1 (by omega) (by omega)
  obtain ⟨k', hk1, hk2, rfl⟩ := inB_get q2 (by omega) (by omega)
  obtain ⟨p', -, hp2, rfl⟩ := inB_get q3 (by omega) (by omega)
  rw [nI_clamp (show n' < 2 ^ 31 by omega), nI_clamp (show k' < 2 ^ 31 by omega), nI_clamp (show p' < 2 ^ 31 by omega)]
  have L : ∀ t, t ≤ k' → WP alC mX11_till (K + 3) (fun x h' => x = vI (nI 0) ∧ CI h' (uL g (frL (tiL n' k' p') (pwF (lN 10) (n' + k' - 1))))) 40 [some (vR 11 0), some (vI (nI n')), some (vI (nI k')), some (vI (nI p')), some (vL (smL (tiT n' k' p') t)), none, some (vI (nI t)), none, none] [] h := by
    refine loop_up k' ?_ (fun t ht ih => ?_)
    · refine wp_at tX11_till [] 40 40 okC kX11_till ⟨fun _ => ⟨_, c_clrG a, ?_⟩, fun c => absurd (nI_le (Nat.le_refl _) (by omega)) c⟩
      rintro v h1 ⟨a1, -⟩
      refine ⟨_, ct_cv (c_power (n := n' + k' - 1) (by omega)) (congrArg (fun x => [vL (lN 10), vI x]) (by rw [nI_add, pk_sub (by omega)])) rfl, ?_⟩
      rintro v h2 ⟨rfl, rfl⟩
      refine ⟨_, c_frG a1 rfl, ?_⟩
      rintro v h3 a3
      exact ⟨rfl, a3⟩
    · rw [smL, ← nI_add t 1] at ih
      refine wp_at tX11_till [(40, [true, true, true, true, true, false, true, false, false])] 80 40 okC kX11_till ⟨fun c => absurd c (nI_ge ht (by omega)), fun _ => ⟨_, ct_cv (c_ways (n := nI (n' - 1 + t)) (m := t) (by omega)) (congrArg (fun x => [vI x, vI (nI t)]) (by rw [pk_sub (by omega), nI_add])) rfl, ?_⟩⟩
      rintro v h1 ⟨rfl, rfl⟩
      refine ⟨_, c_power (by omega), ?_⟩
      rintro v h1 ⟨rfl, rfl⟩
      refine ⟨_, c_power (by omega), ?_⟩
      rintro v h1 ⟨rfl, rfl⟩
      refine ⟨_, ct_cv (c_power (n := k' - 1 - t) (by omega)) (congrArg (fun x => [vL (lN 10), vI x]) (by rw [pk_sub (by omega), pk_sub (by omega)])) rfl, ?_⟩
      rintro v h1 ⟨rfl, rfl⟩
      exact ih
  refine wp_at tX11_till [(40, [true, true, true, true, true, false, true, false, false])] 20 34 okC kX11_till ?_
  exact L 0 (Nat.zero_le _)
