/-! the reference: orders on the wall -/
def ccP (A : Nat → Int32) (f u : Nat) (x y : Int32) (k : Nat) : Bool := u.testBit k || (!hsB (A f) k && !(decide (nI k = x) && decide (nI f = y)))
def OvK (h : Hp) (A : Nat → Int32) (n : Nat) : Prop := h.1 12 0 1 = nI n ∧ n ≤ 8 ∧ ∀ f, f < 8 → h.1 52 0 f = ovF A f
theorem c_canCome {k f u n : Nat} {h : Hp} {A : Nat → Int32} {x y : Int32} (o : OvK h A n) (hf : f < 8) (hu : u < 256) : Ct alM mX12_canCome (k + 1) [vR 12 0, vI (nI f), vI (nI u), vI x, vI y] h (Rd h (b2 (alF (ccP A f u x y) n))) := by
  obtain ⟨o1, hn, o3⟩ := o
  have L : ∀ t, t ≤ n → alF (ccP A f u x y) t = true → WP alM mX12_canCome (k + 1) (Rd h (b2 (alF (ccP A f u x y) n))) 3 [some (vR 12 0), some (vI (nI f)), some (vI (nI u)), some (vI x), some (vI y), some (vI (nI t))] [] h := by
    refine loop_up n ?_ (fun t ht ih => ?_)
    · intro e
      exact wp_at tX12_canCome [] 20 3 okM kX12_canCome ⟨fun _ => ⟨Or.inr rfl, by rw [e]; rfl, rfl⟩, fun c => absurd (by rw [o1]; exact nI_le (Nat.le_refl _) (by omega)) c⟩
    · intro e
      rw [← nI_add t 1] at ih
      have YES : ccP A f u x y t = true → WP alM mX12_canCome (k + 1) (Rd h (b2 (alF (ccP A f u x y) n))) 49 [some (vR 12 0), some (vI (nI f)), some (vI (nI u)), some (vI x), some (vI y), some (vI (nI t))] [] h := fun hp => wp_at tX12_canCome [(3, [true, true, true, true, true, true])] 20 49 okM kX12_canCome (ih (by rw [alF, e, hp]; rfl))
      have NO : ¬ ccP A f u x y t = true → WP alM mX12_canCome (k + 1) (Rd h (b2 (alF (ccP A f u x y) n))) 47 [none, none, none, none, none, none] [] h := fun hp => wp_at tX12_canCome [] 20 47 okM kX12_canCome ⟨Or.inl rfl, by
        cases ha : alF (ccP A f u x y) n
        · rfl
        · exact absurd (alF_iff.mp ha t ht) hp, rfl⟩
      refine wp_at tX12_canCome [(49, [true, true, true, true, true, true]), (47, [false, false, false, false, false, false])] 60 3 okM kX12_canCome ⟨fun c => absurd c (by rw [o1]; exact nI_ge ht (by omega)), fun _ => ⟨_, c_mhas, ?_⟩⟩
      rw [hsB_tb hu (by omega)]
      rintro v h1 ⟨rfl, rfl⟩
      refine ⟨fun c => YES (by unfold ccP; rw [b2_n0.mp c]; rfl), fun c => ⟨ix1 8 (by omega), ?_⟩⟩
      have hut := b2_0.mp (nn c)
      rw [nI_clamp (by omega), o3 t (by omega)]
      refine ⟨_, c_mhas, ?_⟩
      rw [ovF_tb hf]
      rintro v h1 ⟨rfl, rfl⟩
      refine ⟨fun c2 => NO (by unfold ccP; rw [hut, b2_n0.mp c2]; simp), fun c2 => ?_⟩
      have hab := b2_0.mp (nn c2)
      refine ⟨fun c3 => YES (by unfold ccP; rw [hut, hab, dF c3]; rfl), fun c3 => ⟨fun c4 => YES (by unfold ccP; rw [hut, hab, dF c4, Bool.and_false]; rfl), fun c4 => NO (by unfold ccP; rw [hut, hab, dT (nn c3), dT (nn c4)]; decide)⟩⟩
  exact ct_vc tX12_canCome [(3, [true, true, true, true, true, true])] 20 okM kX12_canCome rfl (L 0 (Nat.zero_le _) rfl)
theorem n1k {k : Nat} (hk : k < 8) : ¬ nI k = -(nI 1) := n1ne hk
theorem cc_N {A : Nat → Int32} {n i u : Nat} (hn : n ≤ 8) (wk : WaK n A) (hi : i < n) (hu : u < 2 ^ n) : (!u.testBit i && alF (ccP A i u (-(nI 1)) (-(nI 1))) n) = cN A n i u := by
  have hp := p2_le hn
  have key : (!u.testBit i && alF (ccP A i u (-(nI 1)) (-(nI 1))) n) = true ↔ cN A n i u = true := by
    rw [cN_iff hn wk hi hu]
    constructor
    · intro h
      obtain ⟨h1, h2⟩ := and3 h
      refine ⟨by simpa using h1, fun k hk hs => ?_⟩
      have := alF_iff.mp h2 k hk
      unfold ccP at this
      rw [hs] at this
      cases hb : u.testBit k
      · rw [hb] at this; cases this
      · rfl
    · rintro ⟨h1, h2⟩
      rw [h1]
      show (true && _) = true
      rw [Bool.true_and, alF_iff]
      intro k hk
      unfold ccP
      rw [dF (n1k (show k < 8 by omega)), Bool.false_and, Bool.not_false, Bool.and_true]
      cases hs : hsB (A i) k
      · rw [Bool.not_false, Bool.or_true]
      · rw [h2 k hk hs]; rfl
  cases h : cN A n i u
  · cases h2 : (!u.testBit i && alF (ccP A i u (-(nI 1)) (-(nI 1))) n)
    · rfl
    · rw [key.mp h2] at h; cases h
  · exact key.mpr h
theorem cc_R {A : Nat → Int32} {n i u a b : Nat} (hn : n ≤ 8) (wk : WaK n A) (ha : a < n) (hb : b < n) (hi : i < n) (hu : u < 2 ^ n) : (!u.testBit i && alF (ccP A i u (nI a) (nI b)) n) = cR A n a b i u := by
  have hp := p2_le hn
  have key : (!u.testBit i && alF (ccP A i u (nI a) (nI b)) n) = true ↔ cR A n a b i u = true := by
    constructor
    · intro h
      obtain ⟨h1, h2⟩ := and3 h
      have h2 := alF_iff.mp h2
      unfold cR
      rw [(cN_iff hn wk hi hu).mpr ⟨by simpa using h1, fun k hk hs => by
        have := h2 k hk
        unfold ccP at this
        rw [hs] at this
        cases hb : u.testBit k
        · rw [hb] at this; cases this
        · rfl⟩, Bool.true_and]
      by_cases e : i = b
      · have := h2 a ha
        unfold ccP at this
        rw [dT rfl, dT (show nI i = nI b by rw [e])] at this
        cases hb : u.testBit a
        · rw [hb] at this; simp at this
        · rw [Bool.or_true]
      · rw [dF e]; rfl
    · intro h
      obtain ⟨h1, h2⟩ := and3 h
      obtain ⟨q1, q2⟩ := (cN_iff hn wk hi hu).mp h1
      rw [q1]
      show (true && _) = true
      rw [Bool.true_and, alF_iff]
      intro k hk
      unfold ccP
      cases hs : hsB (A i) k
      · by_cases e1 : k = a
        · subst e1
          by_cases e2 : i = b
          · rw [dT e2] at h2
            have h2 : u.testBit k = true := h2
            rw [h2]; rfl
          · rw [dF (show ¬ nI i = nI b from fun w => e2 (nI_inj (by omega) (by omega) w)), Bool.and_false, Bool.not_false, Bool.and_true, Bool.or_true]
        · rw [dF (show ¬ nI k = nI a from fun w => e1 (nI_inj (by omega) (by omega) w)), Bool.false_and, Bool.not_false, Bool.and_true, Bool.or_true]
      · rw [q2 k hk hs]; rfl
  cases h : cR A n a b i u
  · cases h2 : (!u.testBit i && alF (ccP A i u (nI a) (nI b)) n)
    · rfl
    · rw [key.mp h2] at h; cases h
  · exact key.mpr h
def PS (c : Nat → Nat → Bool) (n S i : Nat) : Nat := iN (2 ^ n - 1) S + smN (fun j => if c j S = true then GG c n (S ||| 2 ^ j) else 0) i
theorem c_countOrders {k n : Nat} {h : Hp} {A : Nat → Int32} {x y : Int32} {c : Nat → Nat → Bool} (o : OvK h A n) (hc : Cn c) (hcc : ∀ i u, i < n → u < 2 ^ n → (!u.testBit i && alF (ccP A i u x y) n) = c i u) : Ct alM mX12_countOrders (k + 2) [vR 12 0, vI x, vI y] h (fun v h' => v = vI (nI (GG c n 0)) ∧ Fm [(53, 0)] [] h h' ∧ ∀ q, q < 2 ^ n → h'.1 53 0 q = nI (GG c n q)) := by
  have hn := o.2.1
  have hp := p2_le hn
  have hp0 := Nat.two_pow_pos n
  have og : ∀ {h' : Hp}, Fm [(53, 0)] [] h h' → OvK h' A n := fun f => ⟨by rw [f.2.2.2 1 (by simp)]; exact o.1, hn, fun q hq => by rw [f.2.2.1 52 0 (by simp) (by simp)]; exact o.2.2 q hq⟩
  let P : AV → Hp → Prop := fun v h' => v = vI (nI (GG c n 0)) ∧ Fm [(53, 0)] [] h h' ∧ ∀ q, q < 2 ^ n → h'.1 53 0 q = nI (GG c n q)
  have L : ∀ d, d ≤ 2 ^ n → ∀ H, Fm [(53, 0)] [] h H → (∀ q, q < 2 ^ n → 2 ^ n - 1 < q + d → H.1 53 0 q = nI (GG c n q)) → WP alM mX12_countOrders (k + 2) P 12 [some (vR 12 0), some (vI x), some (vI y), some (vI (nI (2 ^ n - 1))), some (vI (svF (2 ^ n - 1) d)), none] [] H := by
    refine loop_up (2 ^ n) ?_ (fun d hd ih => ?_)
    · intro H fm e
      have es : svF (2 ^ n - 1) (2 ^ n) = -(nI 1) := if_pos (by omega)
      rw [es]
      refine wp_at tX12_countOrders [] 20 12 okM kX12_countOrders ⟨fun _ => ⟨ix1 (j := 0) 256 (by omega), ?_, fm, fun q hq => e q hq (by omega)⟩, fun c => absurd (by decide) c⟩
      rw [nI_clamp (by omega), e 0 hp0 (by omega)]
    · intro H fm e
      obtain ⟨S, hS⟩ : ∃ S, S = 2 ^ n - 1 - d := ⟨_, rfl⟩
      have es : svF (2 ^ n - 1) d = nI S := by rw [hS]; exact if_neg (by omega)
      rw [es]
      have hSn : S < 2 ^ n := by omega
      have I : ∀ i, i ≤ n → ∀ H, Fm [(53, 0)] [] h H → (∀ q, q < 2 ^ n → S < q → H.1 53 0 q = nI (GG c n q)) → H.1 53 0 S = nI (PS c n S i) → WP alM mX12_countOrders (k + 2) P 38 [some (vR 12 0), some (vI x), some (vI y), some (vI (nI (2 ^ n - 1))), some (vI (nI S)), some (vI (nI i))] [] H := by
        refine loop_up n ?_ (fun i hi ih2 => ?_)
        · intro H fm e e2
          have n1 : H.1 12 0 1 = nI n := (og fm).1
          have := ih H fm (fun q hq hq2 => by
            by_cases w : q = S
            · rw [w, e2]
              congr 1
              exact (GG_eq hc S hSn).symm
            · exact e q hq (by omega))
          have ev : svF (2 ^ n - 1) (d + 1) = nI S + -(nI 1) := by
            unfold svF
            by_cases c : d + 1 = 2 ^ n - 1 + 1
            · rw [if_pos c, show S = 0 by omega]; decide
            · rw [if_neg c, show S = (2 ^ n - 1 - (d + 1)) + 1 by omega]
              exact (pk_m1 _).symm
          rw [ev] at this
          exact wp_at tX12_countOrders [(12, [true, true, true, true, true, false])] 20 38 okM kX12_countOrders ⟨fun _ => this, fun c => absurd (by rw [n1]; exact nI_le (Nat.le_refl _) (by omega)) c⟩
        · intro H fm e e2
          have n1 : H.1 12 0 1 = nI n := (og fm).1
          have ep : PS c n S (i + 1) = PS c n S i + (if c i S = true then GG c n (S ||| 2 ^ i) else 0) := by unfold PS; rw [smN]; omega
          rw [← nI_add i 1] at ih2
          have F : ∀ m, m = (if c i S = true then GG c n (S ||| 2 ^ i) else 0) → WP alM mX12_countOrders (k + 2) P 94 [some (vR 12 0), some (vI x), some (vI y), some (vI (nI (2 ^ n - 1))), some (vI (nI S)), some (vI (nI i))] [vI (nI m), vI (nI (PS c n S i)), vI (nI S), vR 53 0] H := by
            intro m hm
            refine wp_at tX12_countOrders [(38, [true, true, true, true, true, true])] 20 94 okM kX12_countOrders ⟨ix1 256 (by omega), ?_⟩
            rw [nI_clamp (by omega), nI_add]
            refine ih2 _ (fm.sX (by simp) (by decide)) (fun q hq hq2 => ?_) ?_
            · rw [rdX, if_neg (by simp; omega)]; exact e q hq hq2
            · rw [rdX, if_pos (by simp), ep, hm]
          refine wp_at tX12_countOrders [(94, [true, true, true, true, true, true])] 60 38 okM kX12_countOrders ⟨fun c => absurd c (by rw [n1]; exact nI_ge hi (by omega)), fun _ => ⟨ix1 256 (by omega), ?_⟩⟩
          rw [nI_clamp (show S < 2 ^ 31 by omega), e2]
          refine ⟨_, c_mhas, ?_⟩
          rw [hsB_tb (by omega) (by omega)]
          rintro v H1 ⟨rfl, rfl⟩
          have hci := hcc i S hi hSn
          refine ⟨fun c1 => F 0 ?_, fun c1 => ?_⟩
          · rw [if_neg (by rw [← hci, b2_n0.mp c1, Bool.not_true, Bool.false_and]; decide)]
          · refine ⟨_, c_canCome (og fm) (by omega) (by omega), ?_⟩
            rintro v H2 ⟨rfl, rfl⟩
            refine ⟨fun c2 => F 0 ?_, fun c2 => ?_⟩
            · rw [if_neg (by rw [← hci, b2_0.mp c2, Bool.and_false]; decide)]
            · have cy : c i S = true := by rw [← hci, b2_0.mp (nn c1), b2_n0.mp c2]; rfl
              have hol := or_lt hSn hi
              have gt := or_gt (hc i S cy)
              have eo : nI S ||| nI 1 <<< (nI i &&& 31) = nI (S ||| 2 ^ i) := or_nI (by omega)
              refine ⟨by rw [eo]; exact ix1 256 (by omega), ?_⟩
              rw [eo, nI_clamp (by omega), e _ hol gt]
              exact F _ (by rw [if_pos cy])
      have G : ∀ m, m = iN (2 ^ n - 1) S → WP alM mX12_countOrders (k + 2) P 34 [some (vR 12 0), some (vI x), some (vI y), some (vI (nI (2 ^ n - 1))), some (vI (nI S)), none] [vI (nI m), vI (nI S), vR 53 0] H := by
        intro m hm
        refine wp_at tX12_countOrders [(38, [true, true, true, true, true, true])] 20 34 okM kX12_countOrders ⟨ix1 256 (by omega), ?_⟩
        rw [nI_clamp (by omega)]
        refine I 0 (Nat.zero_le _) _ (fm.sX (by simp) (by decide)) (fun q hq hq2 => ?_) ?_
        · rw [rdX, if_neg (by simp; omega)]; exact e q hq (by omega)
        · rw [rdX, if_pos (by simp), hm]; rfl
      refine wp_at tX12_countOrders [(34, [true, true, true, true, true, false])] 30 12 okM kX12_countOrders ⟨fun c => absurd c (nI_pos (by omega)), fun _ => ⟨fun c1 => G 0 ?_, fun c1 => G 1 ?_⟩⟩
      · unfold iN
        rw [if_neg (fun w => c1 (by rw [w]))]
      · unfold iN
        rw [if_pos (nI_inj (by omega) (by omega) (nn c1))]
  refine ct_vc tX12_countOrders [(12, [true, true, true, true, true, false])] 30 okM kX12_countOrders rfl ?_
  have e1 : nI 1 <<< (h.1 12 0 1 &&& 31) - nI 1 = nI (2 ^ n - 1) := by rw [o.1, all_nI hn]
  have := L 0 (Nat.zero_le _) h Fm.rf (fun q hq hq2 => by omega)
  rw [show svF (2 ^ n - 1) 0 = nI (2 ^ n - 1) from if_neg (by omega), ← e1] at this
  exact this
theorem MI.ov {B : Nat} {h : Hp} {g : GS} (a : MI B h g) (z : Sz g) : OvK h (gA g) (gN g) := ⟨a.n1, z.1, a.2.2.2.2.2.2.2.2.1.2⟩
theorem or_gr {g : GS} (z : Sz g) : orG' g = nI (GG (cN (gA g) (gN g)) (gN g) 0) := by
  unfold orG'
  rw [ctO_nI, FG (cN_Cn z.1)]
theorem ln_sp {A : Nat → Int32} {set : Int32} {x : Nat} (hx : cfB A x set = true) : ∀ f i, i ≤ x → x < i + f → i ≤ lnF A set f i ∧ lnF A set f i ≤ x ∧ cfB A (lnF A set f i) set = true ∧ ∀ j, i ≤ j → j < lnF A set f i → cfB A j set = false
  | 0, i, h1, h2 => by omega
  | f + 1, i, h1, h2 => by
    rw [lnF]
    by_cases c : cfB A i set = true
    · rw [if_pos c]; exact ⟨Nat.le_refl _, h1, c, fun j h3 h4 => by omega⟩
    · rw [if_neg c]
      have hne : i ≠ x := fun w => c (by rw [w]; exact hx)
      obtain ⟨q1, q2, q3, q4⟩ := ln_sp hx f (i + 1) (by omega) (by omega)
      refine ⟨by omega, q2, q3, fun j h3 h4 => ?_⟩
      by_cases e : j = i
      · rw [e]; simpa using c
      · exact q4 j (by omega) h4
theorem ms_all {n : Nat} : msN n (2 ^ n - 1) = 0 := smN_z n (fun j hj => by rw [all_tb, dT hj]; rfl)
theorem cN_cf {A : Nat → Int32} {n i u : Nat} (hi : i < n) (hu : u < 2 ^ n) : cN A n i u = cfB A i (nI u) := by unfold cN; rw [dT ⟨hi, hu⟩, Bool.true_and]
theorem m_Ranks {B D k : Nat} {h : Hp} {g : GS} (a : MI B h g) (z : Sz g) (iv : Inv D g) : Ct alM mX12_ranks (k + 3) [vR 12 0] h (fun v h' => v = vI (orG' g) ∧ MI B h' (nRanks g)) := by
  have hn := z.1
  have hp := p2_le hn
  have wk : WaK (gN g) (gA g) := iv.2.2.2.2.2
  have a0 := a.fld (j := 10) (x := nI 0) (by decide)
  refine ct_vc tX12_ranks [(21, [true, true, true, true, false])] 40 okM kX12_ranks rfl ?_
  refine ⟨_, c_countOrders (a0.ov z) (cN_Cn hn) (fun i u hi hu => cc_N hn wk hi hu), ?_⟩
  rintro v h1 ⟨rfl, fm1, -⟩
  rw [← or_gr z]
  have a1 : MI B h1 g := a0.scr fm1 (by simp [scA]) (by simp)
  have L : ∀ t, t ≤ gN g → ∀ u H, MI B H (uL g (rkS (gA g) t).2) → (rkS (gA g) t).1 = nI u → u < 2 ^ gN g → msN (gN g) u + t = gN g → WP alM mX12_ranks (k + 3) (fun v h' => v = vI (orG' g) ∧ MI B h' (nRanks g)) 21 [some (vR 12 0), some (vI (orG' g)), some (vI (nI u)), some (vI (nI t)), none] [] H := by
    refine loop_up (gN g) ?_ (fun t ht ih => ?_)
    · intro u H aH eu hu hm
      exact wp_at tX12_ranks [] 20 21 okM kX12_ranks ⟨fun _ => ⟨rfl, aH⟩, fun c => absurd (by rw [aH.n1]; exact nI_le (Nat.le_refl _) (show gN g < 2 ^ 31 by omega)) c⟩
    · intro u H aH eu hu hm
      have une : u ≠ 2 ^ gN g - 1 := fun w => by rw [w, ms_all] at hm; omega
      obtain ⟨x, hx, cx⟩ := nx_ex hn wk hu une
      rw [cN_cf hx hu] at cx
      obtain ⟨Lx, hLx⟩ : ∃ Lx, Lx = lnF (gA g) (nI u) 8 0 := ⟨_, rfl⟩
      obtain ⟨-, q2, q3, q4⟩ := ln_sp cx 8 0 (by omega) (by omega)
      rw [← hLx] at q2 q3 q4
      have oH : OvK H (gA g) (gN g) := ⟨aH.n1, hn, aH.2.2.2.2.2.2.2.2.1.2⟩
      have tbL : u.testBit Lx = false := cf_tb (by omega) (by omega) q3
      have er : rkS (gA g) (t + 1) = ((rkS (gA g) t).1 ||| nI 1 <<< (nI (lnF (gA g) (rkS (gA g) t).1 8 0) &&& 31), (rkS (gA g) t).2 ++ [(nI (lnF (gA g) (rkS (gA g) t).1 8 0)).toInt64]) := rfl
      rw [eu, ← hLx, or_nI (by omega)] at er
      have I : ∀ w f, f + w = Lx → WP alM mX12_ranks (k + 3) (fun v h' => v = vI (orG' g) ∧ MI B h' (nRanks g)) 32 [some (vR 12 0), some (vI (orG' g)), some (vI (nI u)), some (vI (nI t)), some (vI (nI f))] [] H := by
        intro w
        induction w with
        | zero =>
          intro f hf
          obtain rfl : f = Lx := by omega
          have hc := cc_N hn wk (show f < gN g by omega) hu
          rw [cN_cf (by omega) hu, q3] at hc
          obtain ⟨c1, c2⟩ := and3 hc
          refine wp_at tX12_ranks [(21, [true, true, true, true, false])] 60 32 okM kX12_ranks ⟨_, c_mhas, ?_⟩
          rw [hsB_tb (by omega) (by omega), tbL]
          rintro v H1 ⟨rfl, rfl⟩
          refine ⟨fun c => absurd rfl c, fun _ => ⟨_, c_canCome oH (by omega) (by omega), ?_⟩⟩
          rw [c2]
          rintro v H1 ⟨rfl, rfl⟩
          refine ⟨fun _ => ⟨_, c_tellR aH (by show (rkS (gA g) t).2.length < 16; rw [rkS_len]; omega), ?_⟩, fun c => absurd (by decide) c⟩
          rintro v H2 ⟨a2, -⟩
          have := ih (u ||| 2 ^ f) H2 (by rw [er]; exact a2) (by rw [er]) (or_lt hu (by omega)) (by have := ms_or (n := gN g) (show f < gN g by omega) tbL; omega)
          rw [← nI_add t 1, ← or_nI (by omega)] at this
          exact this
        | succ w IH =>
          intro f hf
          have hcf := q4 f (Nat.zero_le _) (by omega)
          have hc := cc_N hn wk (show f < gN g by omega) hu
          rw [cN_cf (by omega) hu, hcf] at hc
          have this := IH (f + 1) (by omega)
          rw [← nI_add f 1] at this
          refine wp_at tX12_ranks [(32, [true, true, true, true, true])] 60 32 okM kX12_ranks ⟨_, c_mhas, ?_⟩
          rw [hsB_tb (by omega) (by omega)]
          rintro v H1 ⟨rfl, rfl⟩
          refine ⟨fun c => this, fun c1 => ⟨_, c_canCome oH (by omega) (by omega), ?_⟩⟩
          rw [b2_0.mp (nn c1), Bool.not_false, Bool.true_and] at hc
          rw [hc]
          rintro v H1 ⟨rfl, rfl⟩
          exact ⟨fun c => absurd rfl c, fun _ => this⟩
      exact wp_at tX12_ranks [(32, [true, true, true, true, true])] 20 21 okM kX12_ranks ⟨fun c => absurd c (by rw [aH.n1]; exact nI_ge ht (show gN g < 2 ^ 31 by omega)), fun _ => I Lx 0 (by omega)⟩
  exact L 0 (Nat.zero_le _) 0 _ a1.clr rfl (Nat.two_pow_pos _) (by
    have : msN (gN g) 0 = gN g := by
      unfold msN
      rw [smN_cong (gN g) (G := fun _ => 1) (fun j _ => by rw [Nat.zero_testBit]; rfl), smN_c, Nat.mul_one]
    omega)
