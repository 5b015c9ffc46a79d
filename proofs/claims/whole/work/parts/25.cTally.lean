/-! Wall.tally, ordersAt, ordersWithAbove -/
def hT (h : Hp) (n : Nat) (F G : Nat → Int32) : Hp := sV (sV (sX h 10 0 3 (nI n)) 36 0 F) 37 0 G
theorem hT_F {h : Hp} {n : Nat} {F G : Nat → Int32} : (hT h n F G).1 36 0 = F := by unfold hT; rw [rdV, rdV]; simp
theorem hT_G {h : Hp} {n : Nat} {F G : Nat → Int32} : (hT h n F G).1 37 0 = G := by unfold hT; rw [rdV]; simp
theorem hT_a {h : Hp} {n : Nat} {F G : Nat → Int32} : (hT h n F G).1 35 0 = h.1 35 0 := by unfold hT sX; rw [rdV, rdV, rdV]; simp
theorem hT_n {h : Hp} {n : Nat} {F G : Nat → Int32} : (hT h n F G).1 10 0 3 = nI n := by unfold hT; rw [rdVj, rdVj, rdX]; simp
theorem hT_wF {h : Hp} {n j : Nat} {F G : Nat → Int32} {x : Int32} : sX (hT h n F G) 36 0 j x = hT h n (upd F j x) G := by
  unfold sX
  rw [hT_F]
  unfold hT
  refine hp_eq (fun k' i' => ?_) rfl
  simp only [rdV]
  by_cases c1 : k' = 36 ∧ i' = 0
  · obtain ⟨rfl, rfl⟩ := c1; simp
  · by_cases c2 : k' = 37 ∧ i' = 0
    · obtain ⟨rfl, rfl⟩ := c2; simp
    · rw [if_neg c1, if_neg c2, if_neg c2, if_neg c1, if_neg c1]
theorem hT_wG {h : Hp} {n j : Nat} {F G : Nat → Int32} {x : Int32} : sX (hT h n F G) 37 0 j x = hT h n F (upd G j x) := by
  unfold sX
  rw [hT_G]
  unfold hT
  rw [sV_sV]
/-- the set of the third loop when d are done -/
def svF (all d : Nat) : Int32 := if d = all + 1 then -(nI 1) else nI (all - d)
theorem c_tally {k n : Nat} {h : Hp} (hn : n ≤ 8) (F1 G1 F2 G2 : Nat → Int32) (e1 : F1 = t1F (h.1 36 0) 0 (2 ^ n)) (e2 : G1 = t1F (h.1 37 0) (2 ^ n - 1) (2 ^ n)) (e3 : F2 = t2o (h.1 35 0) n F1 (2 ^ n)) (e4 : G2 = t3o (h.1 35 0) n G1 (2 ^ n - 1) (2 ^ n)) : Ct alC mX10_tally (k + 1) [vR 10 0, vI (nI n)] h (Rt (F2 (2 ^ n - 1)) (hT h n F2 G2)) := by
  have hp := p2_le hn
  have hp0 : 0 < 2 ^ n := Nat.two_pow_pos n
  have hF0 : (sX h 10 0 3 (nI n)).1 36 0 = h.1 36 0 := by unfold sX; rw [rdV]; simp
  have hG0 : (sX h 10 0 3 (nI n)).1 37 0 = h.1 37 0 := by unfold sX; rw [rdV]; simp
  -- the third loop
  have L3 : ∀ d, d ≤ 2 ^ n → WP alC mX10_tally (k + 1) (Rt (F2 (2 ^ n - 1)) (hT h n F2 G2)) 115 [some (vR 10 0), some (vI (nI n)), some (vI (nI (2 ^ n - 1))), some (vI (svF (2 ^ n - 1) d)), none] [] (hT h n F2 (t3o (h.1 35 0) n G1 (2 ^ n - 1) d)) := by
    refine loop_up (2 ^ n) ?_ (fun d hd ih => ?_)
    · refine wp_at tX10_tally [] 40 115 okC kX10_tally ⟨fun _ => ⟨ix1 256 (by omega), ?_⟩, fun c => ?_⟩
      · rw [hT_F, nI_clamp (by omega), ← e4]
        exact ⟨rfl, rfl⟩
      · exfalso
        unfold svF at c
        rw [if_pos (by omega)] at c
        exact c (by decide)
    · have es : svF (2 ^ n - 1) d = nI (2 ^ n - 1 - d) := if_neg (by omega)
      have hI : ∀ i, i ≤ n → WP alC mX10_tally (k + 1) (Rt (F2 (2 ^ n - 1)) (hT h n F2 G2)) 122 [some (vR 10 0), some (vI (nI n)), some (vI (nI (2 ^ n - 1))), some (vI (nI (2 ^ n - 1 - d))), some (vI (nI i))] [] (hT h n F2 (t3i (h.1 35 0) (t3o (h.1 35 0) n G1 (2 ^ n - 1) d) (2 ^ n - 1 - d) i)) := by
        refine loop_up n ?_ (fun i hi ih2 => ?_)
        · refine wp_at tX10_tally [(115, [true, true, true, true, false])] 20 122 okC kX10_tally ⟨fun _ => ?_, fun c => absurd (nI_le (Nat.le_refl n) (by omega)) c⟩
          have ev : svF (2 ^ n - 1) (d + 1) = nI (2 ^ n - 1 - d) + -(nI 1) := by
            unfold svF
            by_cases c : d + 1 = 2 ^ n - 1 + 1
            · rw [if_pos c, show 2 ^ n - 1 - d = 0 by omega]; decide
            · rw [if_neg c, show 2 ^ n - 1 - d = (2 ^ n - 1 - (d + 1)) + 1 by omega]
              exact (pk_m1 _).symm
          rw [ev] at ih
          exact ih
        · refine wp_at tX10_tally [(122, [true, true, true, true, true])] 60 122 okC kX10_tally ⟨fun c => absurd c (nI_ge hi (by omega)), fun _ => ⟨_, c_canFollow (by omega), ?_⟩⟩
          rintro v h' ⟨rfl, rfl⟩
          rw [hT_a, ← nI_add i 1] at *
          rw [t3i] at ih2
          refine ⟨fun c => ?_, fun c => ?_⟩
          · rw [if_neg (by rw [b2_0.mp c]; decide)] at ih2
            exact ih2
          · rw [if_pos (b2_n0.mp c)] at ih2
            have hol : (2 ^ n - 1 - d) ||| 2 ^ i < 2 ^ n := or_lt (by omega) hi
            refine ⟨ix1 256 (by omega), ?_, ix1 256 (by omega), ?_⟩
            · rw [or_nI (by omega)]; exact ix1 256 (by omega)
            · rw [or_nI (by omega), nI_clamp (by omega), nI_clamp (by omega), hT_G, hT_wG]
              exact ih2
      refine wp_at tX10_tally [(122, [true, true, true, true, true])] 20 115 okC kX10_tally ⟨fun c => ?_, fun _ => ?_⟩
      · exact absurd c (by rw [es]; exact nI_pos (by omega))
      · have := hI 0 (Nat.zero_le n)
        rw [← es] at this
        exact this
  -- the second loop
  have L2 : ∀ s, s ≤ 2 ^ n → WP alC mX10_tally (k + 1) (Rt (F2 (2 ^ n - 1)) (hT h n F2 G2)) 57 [some (vR 10 0), some (vI (nI n)), some (vI (nI (2 ^ n - 1))), some (vI (nI s)), none] [] (hT h n (t2o (h.1 35 0) n F1 s) G1) := by
    refine loop_up (2 ^ n) ?_ (fun s hs ih => ?_)
    · refine wp_at tX10_tally [(115, [true, true, true, true, false])] 20 57 okC kX10_tally ⟨fun _ => ?_, fun c => absurd (nI_lt (by omega) (by omega)) c⟩
      have := L3 0 (by omega)
      rw [show svF (2 ^ n - 1) 0 = nI (2 ^ n - 1) from if_neg (by omega)] at this
      rw [← e3]
      exact this
    · have hI : ∀ i, i ≤ n → WP alC mX10_tally (k + 1) (Rt (F2 (2 ^ n - 1)) (hT h n F2 G2)) 65 [some (vR 10 0), some (vI (nI n)), some (vI (nI (2 ^ n - 1))), some (vI (nI s)), some (vI (nI i))] [] (hT h n (t2i (h.1 35 0) (t2o (h.1 35 0) n F1 s) s i) G1) := by
        refine loop_up n ?_ (fun i hi ih2 => ?_)
        · refine wp_at tX10_tally [(57, [true, true, true, true, false])] 20 65 okC kX10_tally ⟨fun _ => ?_, fun c => absurd (nI_le (Nat.le_refl n) (by omega)) c⟩
          rw [← nI_add s 1] at ih
          exact ih
        · refine wp_at tX10_tally [(65, [true, true, true, true, true])] 60 65 okC kX10_tally ⟨fun c => absurd c (nI_ge hi (by omega)), fun _ => ⟨_, c_canFollow (by omega), ?_⟩⟩
          rintro v h' ⟨rfl, rfl⟩
          rw [hT_a, ← nI_add i 1] at *
          rw [t2i] at ih2
          refine ⟨fun c => ?_, fun c => ?_⟩
          · rw [if_neg (by rw [b2_0.mp c]; decide)] at ih2
            exact ih2
          · rw [if_pos (b2_n0.mp c)] at ih2
            have hol : s ||| 2 ^ i < 2 ^ n := or_lt hs hi
            refine ⟨by rw [or_nI (by omega)]; exact ix1 256 (by omega), ix1 256 (by omega), by rw [or_nI (by omega)]; exact ix1 256 (by omega), ?_⟩
            rw [or_nI (by omega), nI_clamp (by omega), nI_clamp (by omega), hT_F, hT_wF]
            exact ih2
      refine wp_at tX10_tally [(65, [true, true, true, true, true])] 20 57 okC kX10_tally ⟨fun c => ?_, fun _ => ?_⟩
      · exfalso
        rw [nI_ltI (by omega) (by omega)] at c
        omega
      · exact hI 0 (Nat.zero_le n)
  -- the first
  have L1 : ∀ t, t ≤ 2 ^ n → WP alC mX10_tally (k + 1) (Rt (F2 (2 ^ n - 1)) (hT h n F2 G2)) 13 [some (vR 10 0), some (vI (nI n)), some (vI (nI (2 ^ n - 1))), some (vI (nI t)), none] [] (hT h n (t1F (h.1 36 0) 0 t) (t1F (h.1 37 0) (2 ^ n - 1) t)) := by
    refine loop_up (2 ^ n) ?_ (fun t ht ih => ?_)
    · refine wp_at tX10_tally [(57, [true, true, true, true, false])] 20 13 okC kX10_tally ⟨fun _ => ?_, fun c => absurd (nI_lt (by omega) (by omega)) c⟩
      rw [← e1, ← e2]
      exact L2 0 (by omega)
    · rw [← nI_add t 1] at ih
      have fin : ∀ x y : Int32, x = b2 (decide (t = 0)) → y = b2 (decide (t = 2 ^ n - 1)) → hT h n (upd (t1F (h.1 36 0) 0 t) t x) (upd (t1F (h.1 37 0) (2 ^ n - 1) t) t y) = hT h n (t1F (h.1 36 0) 0 (t + 1)) (t1F (h.1 37 0) (2 ^ n - 1) (t + 1)) := by
        rintro x y rfl rfl
        rw [t1F_s, t1F_s]
      have two : ∀ x : Int32, x = b2 (decide (t = 0)) → WP alC mX10_tally (k + 1) (Rt (F2 (2 ^ n - 1)) (hT h n F2 G2)) 33 [some (vR 10 0), some (vI (nI n)), some (vI (nI (2 ^ n - 1))), some (vI (nI t)), none] [] (hT h n (upd (t1F (h.1 36 0) 0 t) t x) (t1F (h.1 37 0) (2 ^ n - 1) t)) := by
        intro x hx
        refine wp_at tX10_tally [(13, [true, true, true, true, false])] 40 33 okC kX10_tally ⟨fun c => ⟨ix1 256 (by omega), ?_⟩, fun c => ⟨ix1 256 (by omega), ?_⟩⟩
        · rw [nI_clamp (by omega), hT_wG, fin x (nI 0) hx (by rw [dF (fun z => c (by rw [z]))]; rfl)]
          exact ih
        · rw [nI_clamp (by omega), hT_wG, fin x (nI 1) hx (by rw [dT (nI_inj (by omega) (by omega) (nn c))]; rfl)]
          exact ih
      refine wp_at tX10_tally [(33, [true, true, true, true, false])] 40 13 okC kX10_tally ⟨fun c => ?_, fun _ => ⟨fun c => ⟨ix1 256 (by omega), ?_⟩, fun c => ⟨ix1 256 (by omega), ?_⟩⟩⟩
      · exfalso
        rw [nI_ltI (by omega) (by omega)] at c
        omega
      · rw [nI_clamp (by omega), hT_wF]
        exact two (nI 0) (by rw [dF (fun z => c (by rw [z]; rfl))]; rfl)
      · rw [nI_clamp (by omega), hT_wF]
        exact two (nI 1) (by rw [dT (nI_inj (b := 0) (by omega) (by omega) (nn c))]; rfl)
  refine ct_vc tX10_tally [(13, [true, true, true, true, false])] 20 okC kX10_tally rfl ?_
  have := L1 0 (by omega)
  rw [← all_nI hn] at this
  refine wp_h ?_ this
  have z1 : t1F (h.1 36 0) 0 0 = h.1 36 0 := by funext q; exact if_neg (by omega)
  have z2 : t1F (h.1 37 0) (2 ^ n - 1) 0 = h.1 37 0 := by funext q; exact if_neg (by omega)
  rw [z1, z2]
  unfold hT
  refine hp_eq (fun k' i' => ?_) rfl
  simp only [rdV]
  by_cases c2 : k' = 37 ∧ i' = 0
  · obtain ⟨rfl, rfl⟩ := c2; rw [if_pos ⟨rfl, rfl⟩]; exact hG0
  · rw [if_neg c2]
    by_cases c1 : k' = 36 ∧ i' = 0
    · obtain ⟨rfl, rfl⟩ := c1; rw [if_pos ⟨rfl, rfl⟩]; exact hF0
    · rw [if_neg c1]
/-- orders with f at a place: sets of that size ahead of him -/
def oaF (ab O B : Nat → Int32) (f : Nat) (pl : Int32) : Nat → Int32
  | 0 => nI 0
  | s + 1 => if bcF (nI s) = pl ∧ cfB ab f (nI s) = true then oaF ab O B f pl s + O s * B (s ||| 2 ^ f) else oaF ab O B f pl s
theorem c_ordersAt {k n f : Nat} {h : Hp} {pl : Int32} (hn : n ≤ 8) (hf : f < n) (hc : h.1 10 0 3 = nI n) : Ct alC mX10_ordersAt (k + 1) [vR 10 0, vI (nI f), vI pl] h (Rd h (oaF (h.1 35 0) (h.1 36 0) (h.1 37 0) f pl (2 ^ n))) := by
  have hp := p2_le hn
  have hp0 : 0 < 2 ^ n := Nat.two_pow_pos n
  have e1 : nI 1 <<< (h.1 10 0 3 &&& 31) = nI (2 ^ n) := by rw [hc]; exact bit_nI n (by omega)
  have L : ∀ t, t ≤ 2 ^ n → WP alC mX10_ordersAt (k + 1) (Rd h (oaF (h.1 35 0) (h.1 36 0) (h.1 37 0) f pl (2 ^ n))) 5 [some (vR 10 0), some (vI (nI f)), some (vI pl), some (vI (oaF (h.1 35 0) (h.1 36 0) (h.1 37 0) f pl t)), some (vI (nI t))] [] h := by
    refine loop_up (2 ^ n) ?_ (fun t ht ih => ?_)
    · exact wp_at tX10_ordersAt [] 20 5 okC kX10_ordersAt ⟨fun _ => ⟨rfl, rfl⟩, fun c => absurd (by rw [e1]; exact nI_le (Nat.le_refl _) (by omega)) c⟩
    · rw [← nI_add t 1] at ih
      refine wp_at tX10_ordersAt [(5, [true, true, true, true, true])] 60 5 okC kX10_ordersAt ⟨fun c => absurd c (by rw [e1]; exact nI_ge ht (by omega)), fun _ => ⟨_, c_bitCount okC, ?_⟩⟩
      rintro v h' ⟨rfl, rfl⟩
      rw [oaF] at ih
      refine ⟨fun c => ?_, fun c => ⟨_, c_canFollow (by omega), ?_⟩⟩
      · rw [if_neg (fun z => c z.1)] at ih
        exact ih
      · rintro v h' ⟨rfl, rfl⟩
        refine ⟨fun c2 => ?_, fun c2 => ?_⟩
        · rw [if_neg (fun z => by rw [b2_0.mp c2] at z; cases z.2)] at ih
          exact ih
        · rw [if_pos ⟨nn c, b2_n0.mp c2⟩] at ih
          have hol : t ||| 2 ^ f < 2 ^ n := or_lt ht hf
          refine ⟨ix1 256 (by omega), by rw [or_nI (by omega)]; exact ix1 256 (by omega), ?_⟩
          rw [or_nI (by omega), nI_clamp (by omega), nI_clamp (by omega)]
          exact ih
  exact ct_vc tX10_ordersAt [(5, [true, true, true, true, true])] 20 okC kX10_ordersAt rfl (L 0 (by omega))
/-- orders with one above another -/
def owF (ab O B : Nat → Int32) (one oth : Nat) : Nat → Int32
  | 0 => nI 0
  | s + 1 => if hsB (nI s) one = true ∧ cfB ab oth (nI s) = true then owF ab O B one oth s + O s * B (s ||| 2 ^ oth) else owF ab O B one oth s
theorem c_ordersWithAbove {k n one oth : Nat} {h : Hp} (hn : n ≤ 8) (hf : oth < n) (hc : h.1 10 0 3 = nI n) : Ct alC mX10_ordersWithAbove (k + 1) [vR 10 0, vI (nI one), vI (nI oth)] h (Rd h (owF (h.1 35 0) (h.1 36 0) (h.1 37 0) one oth (2 ^ n))) := by
  have hp := p2_le hn
  have hp0 : 0 < 2 ^ n := Nat.two_pow_pos n
  have e1 : nI 1 <<< (h.1 10 0 3 &&& 31) = nI (2 ^ n) := by rw [hc]; exact bit_nI n (by omega)
  have L : ∀ t, t ≤ 2 ^ n → WP alC mX10_ordersWithAbove (k + 1) (Rd h (owF (h.1 35 0) (h.1 36 0) (h.1 37 0) one oth (2 ^ n))) 5 [some (vR 10 0), some (vI (nI one)), some (vI (nI oth)), some (vI (owF (h.1 35 0) (h.1 36 0) (h.1 37 0) one oth t)), some (vI (nI t))] [] h := by
    refine loop_up (2 ^ n) ?_ (fun t ht ih => ?_)
    · exact wp_at tX10_ordersWithAbove [] 20 5 okC kX10_ordersWithAbove ⟨fun _ => ⟨rfl, rfl⟩, fun c => absurd (by rw [e1]; exact nI_le (Nat.le_refl _) (by omega)) c⟩
    · rw [← nI_add t 1] at ih
      rw [owF] at ih
      refine wp_at tX10_ordersWithAbove [(5, [true, true, true, true, true])] 60 5 okC kX10_ordersWithAbove ⟨fun c => absurd c (by rw [e1]; exact nI_ge ht (by omega)), fun _ => ⟨fun c => ?_, fun c => ⟨_, c_canFollow (by omega), ?_⟩⟩⟩
      · rw [if_neg (fun z => c (of_decide_eq_true z.1))] at ih
        exact ih
      · rintro v h' ⟨rfl, rfl⟩
        refine ⟨fun c2 => ?_, fun c2 => ?_⟩
        · rw [if_neg (fun z => by rw [b2_0.mp c2] at z; cases z.2)] at ih
          exact ih
        · rw [if_pos ⟨dT (nn c), b2_n0.mp c2⟩] at ih
          have hol : t ||| 2 ^ oth < 2 ^ n := or_lt ht hf
          refine ⟨ix1 256 (by omega), by rw [or_nI (by omega)]; exact ix1 256 (by omega), ?_⟩
          rw [or_nI (by omega), nI_clamp (by omega), nI_clamp (by omega)]
          exact ih
  exact ct_vc tX10_ordersWithAbove [(5, [true, true, true, true, true])] 20 okC kX10_ordersWithAbove rfl (L 0 (by omega))
