/-! the class's calls: orders on the wall, even -/
/-- counts, whatever lies behind -/
theorem t2i_eq {ab g g' : Nat → Int32} {n s : Nat} (hn : s < 2 ^ n) (e : ∀ q, q < 2 ^ n → g q = g' q) : ∀ i, i ≤ n → ∀ q, q < 2 ^ n → t2i ab g s i q = t2i ab g' s i q
  | 0, _, q, hq => e q hq
  | i + 1, hi, q, hq => by
    have IH := t2i_eq (ab := ab) hn e i (by omega)
    rw [t2i, t2i]
    split
    · have h1 : s ||| 2 ^ i < 2 ^ n := or_lt hn (by omega)
      unfold upd
      split
      · rw [IH _ h1, IH _ hn]
      · exact IH q hq
    · exact IH q hq
theorem t2o_eq {ab g g' : Nat → Int32} {n : Nat} (e : ∀ q, q < 2 ^ n → g q = g' q) : ∀ s, s ≤ 2 ^ n → ∀ q, q < 2 ^ n → t2o ab n g s q = t2o ab n g' s q
  | 0, _, q, hq => e q hq
  | s + 1, hs, q, hq => t2i_eq (by omega) (t2o_eq e s (by omega)) n (Nat.le_refl _) q hq
theorem t3i_eq {ab g g' : Nat → Int32} {n s : Nat} (hn : s < 2 ^ n) (e : ∀ q, q < 2 ^ n → g q = g' q) : ∀ i, i ≤ n → ∀ q, q < 2 ^ n → t3i ab g s i q = t3i ab g' s i q
  | 0, _, q, hq => e q hq
  | i + 1, hi, q, hq => by
    have IH := t3i_eq (ab := ab) hn e i (by omega)
    rw [t3i, t3i]
    split
    · have h1 : s ||| 2 ^ i < 2 ^ n := or_lt hn (by omega)
      unfold upd
      split
      · rw [IH _ h1, IH _ hn]
      · exact IH q hq
    · exact IH q hq
theorem t3o_eq {ab g g' : Nat → Int32} {n : Nat} (e : ∀ q, q < 2 ^ n → g q = g' q) : ∀ d, d ≤ 2 ^ n → ∀ q, q < 2 ^ n → t3o ab n g (2 ^ n - 1) d q = t3o ab n g' (2 ^ n - 1) d q
  | 0, _, q, hq => e q hq
  | d + 1, hs, q, hq => t3i_eq (by omega) (t3o_eq e d (by omega)) n (Nat.le_refl _) q hq
def ctO (ab : Nat → Int32) (n : Nat) : Nat → Int32 := t2o ab n (t1F (fun _ => nI 0) 0 (2 ^ n)) (2 ^ n)
def ctB (ab : Nat → Int32) (n : Nat) : Nat → Int32 := t3o ab n (t1F (fun _ => nI 0) (2 ^ n - 1) (2 ^ n)) (2 ^ n - 1) (2 ^ n)
theorem t1F_eq {f g : Nat → Int32} {one t : Nat} : ∀ q, q < t → t1F f one t q = t1F g one t q := fun q hq => by unfold t1F; rw [if_pos hq, if_pos hq]
def tyP (h' : Hp) (ab : Nat → Int32) (n : Nat) : Prop := h'.1 10 0 3 = nI n ∧ h'.1 35 0 = ab ∧ (∀ q, q < 2 ^ n → h'.1 36 0 q = ctO ab n q) ∧ ∀ q, q < 2 ^ n → h'.1 37 0 q = ctB ab n q
theorem c_tallyG {k : Nat} {h : Hp} {g : GS} (a : CI h g) (z : Sz g) : Ct alC mX10_tally (k + 1) [vR 10 0, vI (nI (gN g))] h (fun v h' => v = vI (ctO (gA g) (gN g) (2 ^ gN g - 1)) ∧ CI h' g ∧ tyP h' (gA g) (gN g)) := by
  have hn := z.1
  have hp0 : 0 < 2 ^ gN g := Nat.two_pow_pos _
  refine ct_post (c_tally hn _ _ _ _ rfl rfl rfl rfl) ?_
  rintro v h' ⟨rfl, rfl⟩
  rw [a.ab]
  refine ⟨?_, ?_, hT_n, ?_, ?_, ?_⟩
  · rw [t2o_eq t1F_eq _ (Nat.le_refl _) _ (by omega)]; rfl
  · have := a.wal (h' := hT h (gN g) (t2o (gA g) (gN g) (t1F (h.1 36 0) 0 (2 ^ gN g)) (2 ^ gN g)) (t3o (gA g) (gN g) (t1F (h.1 37 0) (2 ^ gN g - 1) (2 ^ gN g)) (2 ^ gN g - 1) (2 ^ gN g))) (n := gV g) (A := gA g) (Fr.sV (Fr.sV (Fr.sX Fr.rf (by simp)) (by simp)) (by simp)) ?_ ?_
    · exact this
    · unfold hT; rw [rdVj, if_neg (by simp), rdVj, if_neg (by simp), rdX, if_neg (by simp), a.v]
    · rw [hT_a, a.ab]
  · rw [hT_a, a.ab]
  · intro q hq; rw [hT_F]; exact t2o_eq t1F_eq _ (Nat.le_refl _) _ hq
  · intro q hq; rw [hT_G]; exact t3o_eq t1F_eq _ (Nat.le_refl _) _ hq
theorem oaF_eq {ab O O' B B' : Nat → Int32} {f n : Nat} {pl : Int32} (hf : f < n) (e1 : ∀ q, q < 2 ^ n → O q = O' q) (e2 : ∀ q, q < 2 ^ n → B q = B' q) : ∀ s, s ≤ 2 ^ n → oaF ab O B f pl s = oaF ab O' B' f pl s
  | 0, _ => rfl
  | s + 1, hs => by
    have IH := oaF_eq (ab := ab) (pl := pl) hf e1 e2 s (by omega)
    rw [oaF, oaF, IH, e1 s (by omega), e2 _ (or_lt (by omega) hf)]
theorem owF_eq {ab O O' B B' : Nat → Int32} {f one n : Nat} (hf : f < n) (e1 : ∀ q, q < 2 ^ n → O q = O' q) (e2 : ∀ q, q < 2 ^ n → B q = B' q) : ∀ s, s ≤ 2 ^ n → owF ab O B one f s = owF ab O' B' one f s
  | 0, _ => rfl
  | s + 1, hs => by
    have IH := owF_eq (ab := ab) (one := one) hf e1 e2 s (by omega)
    rw [owF, owF, IH, e1 s (by omega), e2 _ (or_lt (by omega) hf)]
/-- how many orders; with one at a place; with one above another -/
def orG' (g : GS) : Int32 := ctO (gA g) (gN g) (2 ^ gN g - 1)
def oaG (g : GS) (f : Nat) (pl : Int32) : Int32 := oaF (gA g) (ctO (gA g) (gN g)) (ctB (gA g) (gN g)) f pl (2 ^ gN g)
def owG (g : GS) (one oth : Nat) : Int32 := owF (gA g) (ctO (gA g) (gN g)) (ctB (gA g) (gN g)) one oth (2 ^ gN g)
/-- the order of least numbers: who is placed, the row -/
def rkS (ab : Nat → Int32) : Nat → Int32 × List Int64
  | 0 => (nI 0, [])
  | t + 1 => ((rkS ab t).1 ||| nI 1 <<< (nI (lnF ab (rkS ab t).1 8 0) &&& 31), (rkS ab t).2 ++ [(nI (lnF ab (rkS ab t).1 8 0)).toInt64])
theorem rkS_len {ab : Nat → Int32} : ∀ t, (rkS ab t).2.length = t
  | 0 => rfl
  | t + 1 => by rw [rkS, List.length_append, rkS_len t]; rfl
def nRanks (g : GS) : GS := uL g (rkS (gA g) (gN g)).2
theorem c_Ranks {k : Nat} {h : Hp} {g : GS} (a : CI h g) (z : Sz g) : Ct alC mX11_ranks (k + 2) [vR 11 0] h (fun v h' => v = vI (orG' g) ∧ CI h' (nRanks g)) := by
  have hn := z.1
  refine ct_vc tX11_ranks [(26, [true, true, true, true, false])] 40 okC kX11_ranks rfl ?_
  refine ⟨_, ct_cv (c_tallyG a z) (congrArg (fun x => [vR 10 0, vI x]) a.n) rfl, ?_⟩
  rintro v h1 ⟨rfl, a1, -⟩
  refine ⟨_, c_clrG a1, ?_⟩
  rintro v h2 ⟨a2, -⟩
  have L : ∀ t, t ≤ gN g → ∀ h3, CI h3 (uL g (rkS (gA g) t).2) → WP alC mX11_ranks (k + 2) (fun v h' => v = vI (orG' g) ∧ CI h' (nRanks g)) 26 [some (vR 11 0), some (vI (orG' g)), some (vI (rkS (gA g) t).1), some (vI (nI t)), none] [] h3 := by
    refine loop_up (gN g) ?_ (fun t ht ih => ?_)
    · intro h3 a3
      exact wp_at tX11_ranks [] 20 26 okC kX11_ranks ⟨fun _ => ⟨rfl, a3⟩, fun c => absurd (by rw [a3.n]; exact nI_le (Nat.le_refl _) (by omega)) c⟩
    · intro h3 a3
      rw [rkS, ← nI_add t 1] at ih
      refine wp_at tX11_ranks [(26, [true, true, true, true, false])] 40 26 okC kX11_ranks ⟨fun c => absurd c (by rw [a3.n]; exact nI_ge ht (show gN g < 2 ^ 31 by omega)), fun _ => ⟨_, c_leastNext, ?_⟩⟩
      rintro v h4 ⟨rfl, rfl⟩
      have e4 : h4.1 35 0 = gA g := a3.ab
      refine ⟨_, c_addG a3 (by show (rkS (gA g) t).2.length < 8; rw [rkS_len]; omega), ?_⟩
      rintro v h5 ⟨a5, -⟩
      rw [e4] at a5 ⊢
      exact ih h5 a5
  exact L 0 (Nat.zero_le _) h2 a2
def okSt (g : GS) (x p : Int32) : Bool := hasN x (gN g) && hasN p (gN g)
def aStands (g : GS) (x p : Int32) : Int32 := if okSt g x p = true then oaG g x.toNatClampNeg p else -(nI 1)
def nStands (g : GS) (x p : Int32) : GS := if okSt g x p = true then uL g (frL (oaG g x.toNatClampNeg p).toInt64 (orG' g).toInt64) else g
theorem c_Stands {k : Nat} {h : Hp} {g : GS} {x p : Int32} (a : CI h g) (z : Sz g) : Ct alC mX11_stands (k + 3) [vR 11 0, vI x, vI p] h (fun v h' => v = vI (aStands g x p) ∧ CI h' (nStands g x p)) := by
  have hn := z.1
  have NO : ¬ okSt g x p = true → WP alC mX11_stands (k + 3) (fun v h' => v = vI (aStands g x p) ∧ CI h' (nStands g x p)) 26 [none, none, none, none, none] [] h := by
    intro hno
    refine wp_at tX11_stands [] 10 26 okC kX11_stands ?_
    unfold aStands nStands
    rw [if_neg hno, if_neg hno]
    exact ⟨rfl, a⟩
  refine ct_vc tX11_stands [(26, [false, false, false, false, false])] 60 okC kX11_stands rfl ?_
  refine ⟨_, c_has a.n, ?_⟩
  rintro v h' ⟨rfl, rfl⟩
  refine ⟨fun c => NO (fun w => by rw [(and3 w).1] at c; exact absurd c (by decide)), fun c => ⟨fun c2 => NO (fun w => absurd (of_decide_eq_true (and3 (and3 w).2).1) (i_len c2)), fun c2 => ⟨fun c3 => ?_, fun c3 => NO (fun w => c3 (by rw [a.n]; exact of_decide_eq_true (and3 (and3 w).2).2))⟩⟩⟩
  have q1 := b2_n0.mp c
  have q2 : hasN p (gN g) = true := by
    have c3' : p < h'.1 3 0 3 := c3
    rw [a.n] at c3'
    unfold hasN; rw [dT (i_nlt c2), dT c3']; rfl
  have hok : okSt g x p = true := by unfold okSt; rw [q1, q2]; rfl
  unfold aStands nStands
  simp only [if_pos hok]
  obtain ⟨j, hj, rfl⟩ := hasN_get q1 (by omega)
  rw [nI_clamp (show j < 2 ^ 31 by omega)]
  refine ⟨_, ct_cv (c_tallyG a z) (congrArg (fun x => [vR 10 0, vI x]) a.n) rfl, ?_⟩
  rintro v h1 ⟨rfl, a1, t1⟩
  refine ⟨_, c_ordersAt hn hj t1.1, ?_⟩
  rintro v h2 ⟨rfl, rfl⟩
  rw [t1.2.1, oaF_eq hj t1.2.2.1 t1.2.2.2 _ (Nat.le_refl _)]
  refine ⟨_, c_clrG a1, ?_⟩
  rintro v h3 ⟨a3, -⟩
  refine ⟨_, c_frG a3 rfl, ?_⟩
  rintro v h4 a4
  exact ⟨rfl, a4⟩
/-- watch: the pair, how many orders are left at most -/
abbrev Ws : Type := (Nat × Nat) × Int32
def wtL (g : GS) (one oth : Nat) : Int32 := mxI (owG g one oth) (orG' g - owG g one oth)
def wt1 (g : GS) (one oth : Nat) (q : Ws) : Ws := if wtL g one oth < q.2 then ((one, oth), wtL g one oth) else q
def wtO (g : GS) (one : Nat) (q : Ws) : Ws := lpG (wt1 g one) (gN g - 1 - one) (one + 1) q
def wtR (g : GS) : Ws := lpG (wtO g) (gN g) 0 ((0, 0), orG' g + nI 1)
def aWatch (g : GS) : Int32 := if orG' g = nI 1 then -(nI 2) else (wtR g).2
def nWatch (g : GS) : GS := if orG' g = nI 1 then g else uL g [(nI (wtR g).1.1).toInt64, (nI (wtR g).1.2).toInt64]
theorem pair8 : ∀ a, a < 8 → ∀ b, b < 8 → nI (a * 8 + b) / nI 8 = nI a ∧ nI (a * 8 + b) - nI (a * 8 + b) / nI 8 * nI 8 = nI b := by decide
theorem pair_nI {a b : Nat} : nI a * nI 8 + nI b = nI (a * 8 + b) := by rw [nI_mul, nI_add]
theorem c_Watch {k : Nat} {h : Hp} {g : GS} (a : CI h g) (z : Sz g) : Ct alC mX11_watch (k + 3) [vR 11 0] h (fun v h' => v = vI (aWatch g) ∧ CI h' (nWatch g)) := by
  have hn := z.1
  refine ct_vc tX11_watch [(32, [true, true, true, true, true, false, false, false])] 40 okC kX11_watch rfl ?_
  refine ⟨_, ct_cv (c_tallyG a z) (congrArg (fun x => [vR 10 0, vI x]) a.n) rfl, ?_⟩
  rintro v h1 ⟨rfl, a1, t1⟩
  unfold aWatch nWatch
  refine ⟨fun c => ?_, fun c => ?_⟩
  · have c' : ¬ orG' g = nI 1 := c
    simp only [if_neg c']
    have OU : ∀ f i (q : Ws), i + f = gN g → wtR g = lpG (wtO g) f i q → q.1.1 < 8 → q.1.2 < 8 → WP alC mX11_watch (k + 3) (fun v h' => v = vI (wtR g).2 ∧ CI h' (uL g [(nI (wtR g).1.1).toInt64, (nI (wtR g).1.2).toInt64])) 32 [some (vR 11 0), some (vI (orG' g)), some (vI (nI (q.1.1 * 8 + q.1.2))), some (vI q.2), some (vI (nI i)), none, none, none] [] h1 := by
      intro f
      induction f with
      | zero =>
        intro i q hi e b1 b2
        have p8 := pair8 _ b1 _ b2
        rw [e]
        refine wp_at tX11_watch [] 40 32 okC kX11_watch ⟨fun _ => ⟨_, c_clrG a1, ?_⟩, fun c => absurd (by rw [a1.n]; exact nI_le (show gN g ≤ i by omega) (by omega)) c⟩
        rintro v h2 ⟨a2, -⟩
        refine ⟨by decide, _, c_addG a2 (by show (0 : Nat) < 8; decide), ?_⟩
        rintro v h3 ⟨a3, -⟩
        refine ⟨by decide, _, c_addG a3 (by show (1 : Nat) < 8; decide), ?_⟩
        rintro v h4 ⟨a4, -⟩
        rw [p8.2, p8.1] at a4
        exact ⟨rfl, a4⟩
      | succ f IH =>
        intro i q hi e b1 b2
        have IN : ∀ f' j (q : Ws), j + f' = gN g → wtR g = lpG (wtO g) f (i + 1) (lpG (wt1 g i) f' j q) → q.1.1 < 8 → q.1.2 < 8 → WP alC mX11_watch (k + 3) (fun v h' => v = vI (wtR g).2 ∧ CI h' (uL g [(nI (wtR g).1.1).toInt64, (nI (wtR g).1.2).toInt64])) 50 [some (vR 11 0), some (vI (orG' g)), some (vI (nI (q.1.1 * 8 + q.1.2))), some (vI q.2), some (vI (nI i)), some (vI (nI j)), none, none] [] h1 := by
          intro f'
          induction f' with
          | zero =>
            intro j q hj e b1 b2
            have := IH (i + 1) q (by omega) e b1 b2
            rw [← nI_add i 1] at this
            exact wp_at tX11_watch [(32, [true, true, true, true, true, false, false, false])] 20 50 okC kX11_watch ⟨fun _ => this, fun c => absurd (by rw [a1.n]; exact nI_le (show gN g ≤ j by omega) (by omega)) c⟩
          | succ f' IH2 =>
            intro j q hj e b1 b2
            rw [lpG_s] at e
            refine wp_at tX11_watch [(50, [true, true, true, true, true, true, false, false])] 60 50 okC kX11_watch ⟨fun c => absurd c (by rw [a1.n]; exact nI_ge (by omega) (by omega)), fun _ => ⟨_, c_ordersWithAbove hn (show j < gN g by omega) t1.1, ?_⟩⟩
            rintro v h2 ⟨rfl, rfl⟩
            rw [t1.2.1, owF_eq (show j < gN g by omega) t1.2.2.1 t1.2.2.2 _ (Nat.le_refl _)]
            refine ⟨fun c2 => ?_, fun c2 => ?_⟩
            · have es : wt1 g i j q = q := if_neg (i_ltn c2)
              rw [es] at e
              have := IH2 (j + 1) q (by omega) e b1 b2
              rw [← nI_add j 1] at this
              exact this
            · have es : wt1 g i j q = ((i, j), wtL g i j) := if_pos (i_nle c2)
              rw [es] at e
              have := IH2 (j + 1) ((i, j), wtL g i j) (by omega) e (by show i < 8; omega) (by show j < 8; omega)
              rw [← nI_add j 1] at this
              dsimp only at this
              rw [← pair_nI] at this
              exact this
        have := IN (gN g - 1 - i) (i + 1) q (by omega) e b1 b2
        rw [← nI_add i 1] at this
        exact wp_at tX11_watch [(50, [true, true, true, true, true, true, false, false])] 20 32 okC kX11_watch ⟨fun c => absurd c (by rw [a1.n]; exact nI_ge (by omega) (by omega)), fun _ => this⟩
    exact OU (gN g) 0 ((0, 0), orG' g + nI 1) (by omega) rfl (show 0 < 8 by decide) (show 0 < 8 by decide)
  · have c' : orG' g = nI 1 := nn c
    simp only [if_pos c']
    exact ⟨rfl, a1⟩
