/-! the reference: ask, rests, odds, till -/
theorem sm_tb {m : Nat} : ∀ n, smN (fun j => if m.testBit j = true then 1 else 0) n = pcN n m
  | 0 => rfl
  | n + 1 => by rw [smN, sm_tb n, pcN, Nat.add_comm]
theorem pcN_mo {m : Nat} : ∀ a d, pcN a m ≤ pcN (a + d) m
  | a, 0 => Nat.le_refl _
  | a, d + 1 => by
    have := pcN_mo (m := m) a d
    rw [← Nat.add_assoc, pcN]
    omega
theorem ask_ch {g : GS} (hn : gN g ≤ 8) {m v : Nat} (hm : m < 256) : ∃ c, c ≤ pcN 8 m ∧ chF (gR g) (nI v) (nI m) (gN g) = nI c := by
  refine ⟨smN (fun j => if gR g 2 j ≤ nI v then (if m.testBit j = true then 1 else 0) else 0) (gN g), ?_, ?_⟩
  · have h1 := smN_le (F := fun j => if gR g 2 j ≤ nI v then (if m.testBit j = true then 1 else 0) else 0) (G := fun j => if m.testBit j = true then 1 else 0) (gN g) (fun j hj => by
      by_cases c : gR g 2 j ≤ nI v
      · rw [if_pos c]; exact Nat.le_refl _
      · rw [if_neg c]; exact Nat.zero_le _)
    rw [sm_tb] at h1
    have h2 := pcN_mo (m := m) (gN g) (8 - gN g)
    rw [show gN g + (8 - gN g) = 8 by omega] at h2
    omega
  · unfold chF
    refine smF_nI _ (fun j hj => ?_)
    rw [sh_tb m hm j (by omega)]
    split
    · split <;> rfl
    · rfl
theorem mx_nI {a b : Nat} (ha : a < 2 ^ 31) (hb : b < 2 ^ 31) : mxI (nI a) (nI b) = nI (max a b) := by
  unfold mxI
  by_cases c : a < b
  · rw [if_pos (nI_lt c hb), Nat.max_eq_right (by omega)]
  · rw [if_neg (nI_nlt (by omega) ha), Nat.max_eq_left (by omega)]
theorem aFits_bs {g : GS} (hn : gN g ≤ 8) : aFits g = nI (bsN (fun j => faB (gHk g) (gHv g) (gR g) (gS g) (gH g) j) (gN g)) := orF_bs _ hn (fun _ _ => rfl)
theorem akL_le {g : GS} (hn : gN g ≤ 8) (v : Nat) : ∃ l b, akL g v = nI l ∧ bcF (aFits g) = nI b ∧ l ≤ b ∧ b ≤ 8 := by
  have hm : bsN (fun j => faB (gHk g) (gHv g) (gR g) (gS g) (gH g) j) (gN g) < 256 := Nat.lt_of_lt_of_le (bsN_lt _) (p2_le hn)
  unfold akL
  rw [aFits_bs hn, bc8 _ hm]
  obtain ⟨c, hc, ec⟩ := ask_ch (g := g) (v := v) hn hm
  have p8 := pc_8 (f := 8) (u := bsN (fun j => faB (gHk g) (gHv g) (gR g) (gS g) (gH g) j) (gN g))
  rw [ec, pk_sub hc, mx_nI (by omega) (by omega)]
  exact ⟨_, _, rfl, rfl, by omega, p8⟩
def mkA (g : GS) (t : Nat) : Int32 × Int32 := if t = 0 then (-(nI 1), nI 1000000) else akS g t
theorem mkA_9 {g : GS} : mkA g 9 = akS g 9 := if_neg (by decide)
theorem m_Ask {B D k : Nat} {h : Hp} {g : GS} (a : MI B h g) (z : Sz g) (iv : Inv D g) : Ct alM mX12_ask (k + 3) [vR 12 0] h (fun v h' => v = vI (aAsk g) ∧ MI B h' (nAsk g)) := by
  have hn := z.1
  have a0 := a.fld (j := 10) (x := nI 0) (by decide)
  obtain ⟨h0, hh0⟩ : ∃ h0, sX h 12 0 10 (nI 0) = h0 := ⟨_, rfl⟩
  rw [hh0] at a0
  have w0 := a0.ww z iv
  obtain ⟨m, hmm⟩ : ∃ m, m = bsN (fun j => faB (gHk g) (gHv g) (gR g) (gS g) (gH g) j) (gN g) := ⟨_, rfl⟩
  have hm : m < 256 := by rw [hmm]; exact Nat.lt_of_lt_of_le (bsN_lt _) (p2_le hn)
  have eF : aFits g = nI m := by rw [hmm]; exact aFits_bs hn
  have mkS : ∀ t, mkA g (t + 1) = if akL g (t + 1) < (mkA g t).2 then (nI (t + 1), akL g (t + 1)) else mkA g t := by
    intro t
    show akS g (t + 1) = _
    have es : akS g (t + 1) = if akL g (t + 1) < (akS g t).2 then (nI (t + 1), akL g (t + 1)) else akS g t := rfl
    by_cases c : t = 0
    · subst c
      obtain ⟨l, b, e1, e2, e3, e4⟩ := akL_le hn (0 + 1)
      have q1 : akL g (0 + 1) < (akS g 0).2 := by
        show akL g (0 + 1) < bcF (aFits g) + nI 1
        rw [e1, e2, nI_add]
        exact nI_lt (by omega) (by omega)
      have q2 : akL g (0 + 1) < (mkA g 0).2 := by
        show akL g (0 + 1) < nI 1000000
        rw [e1]
        exact nI_lt (by omega) (by omega)
      rw [es, if_pos q1, if_pos q2]
    · have e0 : mkA g t = akS g t := if_neg c
      rw [e0, es]
  have L : ¬ aFits g = 0 → ∀ t, t ≤ 9 → WP alM mX12_ask (k + 3) (fun v h' => v = vI (aAsk g) ∧ MI B h' (nAsk g)) 26 [some (vR 12 0), some (vI (nI m)), some (vI (mkA g t).1), some (vI (mkA g t).2), some (vI (nI (t + 1))), none, none] [] h0 := by
    intro hno
    unfold aAsk nAsk
    rw [if_neg hno, if_neg hno]
    refine loop_up 9 ?_ (fun t ht ih => ?_)
    · refine wp_at tX12_ask [] 40 26 okM kX12_ask ⟨fun _ => ⟨_, c_tellR a0.clr (by show (0 : Nat) < 16; decide), ?_⟩, fun c => absurd (nI_lt (show 9 < 9 + 1 by omega) (by omega)) c⟩
      rintro v h3 ⟨a3, -⟩
      rw [mkA_9] at a3 ⊢
      exact ⟨rfl, a3⟩
    · rw [mkS t, ← nI_add (t + 1) 1] at ih
      have IN : ∀ q, q ≤ gN g → WP alM mX12_ask (k + 3) (fun v h' => v = vI (akS g 9).1 ∧ MI B h' (uL g [(akS g 9).2.toInt64])) 39 [some (vR 12 0), some (vI (nI m)), some (vI (mkA g t).1), some (vI (mkA g t).2), some (vI (nI (t + 1))), some (vI (chF (gR g) (nI (t + 1)) (nI m) q)), some (vI (nI q))] [] h0 := by
        refine loop_up (gN g) ?_ (fun q hq ih2 => ?_)
        · refine wp_at tX12_ask [(26, [true, true, true, true, true, false, false])] 60 39 okM kX12_ask ⟨fun _ => ⟨_, c_bitCount okM, ?_⟩, fun c => absurd (by rw [a0.n1]; exact nI_le (Nat.le_refl _) (by omega)) c⟩
          rintro v h2 ⟨rfl, rfl⟩
          have eL : akL g (t + 1) = mxI (chF (gR g) (nI (t + 1)) (nI m) (gN g)) (bcF (nI m) - chF (gR g) (nI (t + 1)) (nI m) (gN g)) := by unfold akL; rw [eF]
          rw [eL] at ih
          refine ⟨fun c => ?_, fun c => ?_⟩
          · rw [if_pos (show mxI (chF (gR g) (nI (t + 1)) (nI m) (gN g)) (bcF (nI m) - chF (gR g) (nI (t + 1)) (nI m) (gN g)) < (mkA g t).2 from c)] at ih
            exact ih
          · rw [if_neg (show ¬ mxI (chF (gR g) (nI (t + 1)) (nI m) (gN g)) (bcF (nI m) - chF (gR g) (nI (t + 1)) (nI m) (gN g)) < (mkA g t).2 from c)] at ih
            exact ih
        · rw [chF_s, sh_tb m hm q (by omega), ← nI_add q 1] at ih2
          have N : ∀ y, (if gR g 2 q ≤ nI (t + 1) then (if m.testBit q = true then nI 1 else nI 0) else nI 0) = y → WP alM mX12_ask (k + 3) (fun v h' => v = vI (akS g 9).1 ∧ MI B h' (uL g [(akS g 9).2.toInt64])) 75 [some (vR 12 0), some (vI (nI m)), some (vI (mkA g t).1), some (vI (mkA g t).2), some (vI (nI (t + 1))), none, some (vI (nI q))] [vI y, vI (chF (gR g) (nI (t + 1)) (nI m) q)] h0 := by
            intro y hy
            rw [hy] at ih2
            exact wp_at tX12_ask [(39, [true, true, true, true, true, true, true])] 20 75 okM kX12_ask ih2
          refine wp_at tX12_ask [(75, [true, true, true, true, true, false, true])] 60 39 okM kX12_ask ⟨fun c => absurd c (by rw [a0.n1]; exact nI_ge hq (by omega)), fun _ => ⟨_, c_mhas, ?_⟩⟩
          rw [hsB_tb hm (by omega)]
          rintro v h2 ⟨rfl, rfl⟩
          refine ⟨fun c => N _ ?_, fun c => ⟨_, c_mhire w0 hq, ?_⟩⟩
          · rw [b2_0.mp c]
            split <;> rfl
          · rintro v h2 ⟨rfl, rfl⟩
            refine ⟨fun c2 => N _ ?_, fun c2 => N _ ?_⟩
            · rw [if_neg (i_len c2)]
            · rw [if_pos (i_nlt c2), if_pos (b2_n0.mp c)]
      refine wp_at tX12_ask [(39, [true, true, true, true, true, true, true])] 20 26 okM kX12_ask ⟨fun c => absurd c (nI_nlt (by omega) (by omega)), fun _ => ?_⟩
      exact IN 0 (Nat.zero_le _)
  refine ct_vc tX12_ask [(5, [true, false, false, false, false, false, false])] 10 okM kX12_ask rfl ?_
  show WP alM mX12_ask (k + 3) _ 5 [some (vR 12 0), none, none, none, none, none, none] [] (sX h 12 0 10 (nI 0))
  rw [hh0]
  refine wp_at tX12_ask [(26, [true, true, true, true, true, false, false])] 40 5 okM kX12_ask ⟨_, c_mfitting a0 z iv, ?_⟩
  rintro v h1 ⟨rfl, rfl⟩
  refine ⟨fun c => ?_, fun c => ?_⟩
  · have := L c 0 (Nat.zero_le _)
    rw [← eF] at this
    exact this
  · unfold aAsk nAsk
    rw [if_pos (nn c), if_pos (nn c)]
    exact ⟨rfl, a0⟩
theorem c_gets {k : Nat} {h : Hp} {x y v : Int32} : Ct alM mX12_gets k [vI x, vI y, vI v] h (Rd h (shrF x y v)) := by
  refine ct_vc tX12_gets [] 40 okM kX12_gets rfl ?_
  unfold shrF
  refine ⟨fun c => ⟨fun c2 => ⟨?_, rfl⟩, fun c2 => ⟨by decide, ?_, rfl⟩⟩, fun c => ⟨?_, rfl⟩⟩
  · rw [if_neg c2, if_neg (i_ltn c)]
  · rw [if_pos (nn c2)]
  · rw [if_neg (fun e => c (by rw [e]; exact Int32.le_refl _)), if_pos (i_nle c)]
theorem c_isBest {k : Nat} {h : Hp} {x y v : Int32} : Ct alM mX12_isBest (k + 1) [vI x, vI y, vI v] h (Rd h (b2 (bbB x y v))) := by
  have L : ∀ t, t ≤ 10 → (∀ j, j < t → (!decide (shrF x y v < shrF (nI j) y v)) = true) → WP alM mX12_isBest (k + 1) (Rd h (b2 (bbB x y v))) 2 [some (vI x), some (vI y), some (vI v), some (vI (nI t))] [] h := by
    refine loop_up 10 ?_ (fun t ht ih => ?_)
    · intro hj
      refine wp_at tX12_isBest [] 20 2 okM kX12_isBest ⟨fun _ => ⟨Or.inr rfl, bT (alF_iff.mpr hj), rfl⟩, fun c => absurd (nI_lt (show 9 < 10 by omega) (by omega)) c⟩
    · intro hj
      refine wp_at tX12_isBest [(2, [true, true, true, true])] 40 2 okM kX12_isBest ⟨fun c => absurd c (nI_nlt (by omega) (by omega)), fun _ => ⟨_, c_gets, ?_⟩⟩
      rintro v1 h1 ⟨rfl, rfl⟩
      refine ⟨_, c_gets, ?_⟩
      rintro v1 h1 ⟨rfl, rfl⟩
      refine ⟨fun c => ?_, fun c => ⟨Or.inl rfl, bF (alF_no (i := t) ?_ ht), rfl⟩⟩
      · rw [← nI_add t 1] at ih
        refine ih (fun j hj2 => ?_)
        by_cases e : j = t
        · subst e; rw [dF (i_ltn c)]; rfl
        · exact hj j (by omega)
      · rw [dT (i_nle c)]; rfl
  refine ct_vc tX12_isBest [(2, [true, true, true, true])] 20 okM kX12_isBest rfl ?_
  exact L 0 (Nat.zero_le _) (fun j hj => by omega)
theorem m_Rests {B k : Nat} {h : Hp} {g : GS} {v : Int32} (a : MI B h g) : Ct alM mX12_rests (k + 2) [vR 12 0, vI v] h (fun x h' => x = vI (aRests v) ∧ MI B h' (nRests g v)) := by
  have a0 := a.fld (j := 10) (x := nI 0) (by decide)
  have OU : okH v = true → ∀ f i q h1, i + f = 10 → rsR v = lpG (rsO v) f i q → q.1 ≤ 10 * i → (q.1 = 0 → q.2 = []) → MI B h1 (uL g q.2) → WP alM mX12_rests (k + 2) (fun x h' => x = vI (aRests v) ∧ MI B h' (nRests g v)) 26 [some (vR 12 0), some (vI v), some (vI (nI q.1)), some (vI (nI i)), none] [] h1 := by
    intro hok f
    unfold aRests nRests
    rw [if_pos hok, if_pos hok]
    induction f with
    | zero =>
      intro i q h1 hi e h2 h3 a1
      refine wp_at tX12_rests [] 20 26 okM kX12_rests ⟨fun _ => ?_, fun c => absurd (nI_lt (show 9 < i by omega) (by omega)) c⟩
      rw [e]
      exact ⟨rfl, a1⟩
    | succ f IH =>
      intro i q h1 hi e h2 h3 a1
      have IN : ∀ f' j q h1, j + f' = 10 → rsR v = lpG (rsO v) f (i + 1) (lpG (rsS v i) f' j q) → q.1 ≤ 10 * i + j → (q.1 = 0 → q.2 = []) → MI B h1 (uL g q.2) → WP alM mX12_rests (k + 2) (fun x h' => x = vI (nI (rsR v).1) ∧ MI B h' (uL g (rsR v).2)) 35 [some (vR 12 0), some (vI v), some (vI (nI q.1)), some (vI (nI i)), some (vI (nI j))] [] h1 := by
        intro f'
        induction f' with
        | zero =>
          intro j q h1 hj e h2 h3 a1
          have := IH (i + 1) q h1 (by omega) e (by omega) h3 a1
          rw [← nI_add i 1] at this
          exact wp_at tX12_rests [(26, [true, true, true, true, false])] 20 35 okM kX12_rests ⟨fun _ => this, fun c => absurd (nI_lt (show 9 < j by omega) (by omega)) c⟩
        | succ f' IH2 =>
          intro j q h1 hj e h2 h3 a1
          rw [lpG_s] at e
          have G : WP alM mX12_rests (k + 2) (fun x h' => x = vI (nI (rsR v).1) ∧ MI B h' (uL g (rsR v).2)) 85 [some (vR 12 0), some (vI v), some (vI (nI q.1)), some (vI (nI i)), some (vI (nI j))] [] h1 ∨ (bbB (nI i) (nI j) v = true ∧ bbB (nI j) (nI i) v = true) := by
            by_cases c : bbB (nI i) (nI j) v = true ∧ bbB (nI j) (nI i) v = true
            · exact Or.inr c
            · left
              have es : rsS v i j q = q := if_neg c
              rw [es] at e
              have := IH2 (j + 1) q h1 (by omega) e (by omega) h3 a1
              rw [← nI_add j 1] at this
              exact wp_at tX12_rests [(35, [true, true, true, true, true])] 20 85 okM kX12_rests this
          refine wp_at tX12_rests [(85, [true, true, true, true, true]), (82, [true, true, true, true, true])] 60 35 okM kX12_rests ⟨fun c => absurd c (nI_nlt (by omega) (by omega)), fun _ => ⟨_, c_isBest, ?_⟩⟩
          rintro v1 h2' ⟨rfl, rfl⟩
          refine ⟨fun c => G.resolve_right (fun w => by rw [w.1] at c; exact absurd c (by decide)), fun c => ⟨_, c_isBest, ?_⟩⟩
          rintro v1 h2' ⟨rfl, rfl⟩
          refine ⟨fun c2 => ?_, fun c2 => G.resolve_right (fun w => by rw [w.2] at c2; exact absurd (nn c2) (by decide))⟩
          have es : rsS v i j q = (q.1 + 1, if q.1 = 0 then [(nI i).toInt64, (nI j).toInt64] else q.2) := if_pos ⟨b2_n0.mp c, b2_n0.mp c2⟩
          rw [es] at e
          have F : ∀ h3, MI B h3 (uL g (if q.1 = 0 then [(nI i).toInt64, (nI j).toInt64] else q.2)) → WP alM mX12_rests (k + 2) (fun x h' => x = vI (nI (rsR v).1) ∧ MI B h' (uL g (rsR v).2)) 82 [some (vR 12 0), some (vI v), some (vI (nI q.1)), some (vI (nI i)), some (vI (nI j))] [] h3 := by
            intro h3 a3
            have := IH2 (j + 1) _ h3 (by omega) e (by show q.1 + 1 ≤ _; omega) (fun w => by have w' : q.1 + 1 = 0 := w; omega) a3
            rw [← nI_add j 1] at this
            have t2 : nI (q.1 + 1) = nI q.1 + nI 1 := (nI_add _ _).symm
            dsimp only at this
            rw [t2] at this
            exact wp_at tX12_rests [(35, [true, true, true, true, true])] 20 82 okM kX12_rests this
          refine ⟨fun c3 => F _ ?_, fun c3 => ⟨_, c_tellR a1 ?_, ?_⟩⟩
          · have : ¬ q.1 = 0 := fun w => c3 (by rw [w]; rfl)
            rw [if_neg this]; exact a1
          · have w : q.1 = 0 := nI_inj (by omega) (by omega) (nn c3)
            show q.2.length < 16
            rw [h3 w]; decide
          · have w : q.1 = 0 := nI_inj (by omega) (by omega) (nn c3)
            rintro v1 h4 ⟨a4, -⟩
            refine ⟨_, c_tellR a4 (by show (q.2 ++ [_]).length < 16; rw [h3 w, List.length_append]; exact (by decide : 0 + 1 < 16)), ?_⟩
            rintro v1 h5 ⟨a5, -⟩
            refine F h5 ?_
            rw [if_pos w]
            have a6 : MI B h5 (uL g (q.2 ++ [(nI i).toInt64] ++ [(nI j).toInt64])) := a5
            rw [h3 w] at a6
            exact a6
      refine wp_at tX12_rests [(35, [true, true, true, true, true])] 20 26 okM kX12_rests ⟨fun c => absurd c (nI_nlt (by omega) (by omega)), fun _ => ?_⟩
      exact IN 10 0 q h1 rfl e (by omega) h3 a1
  refine ct_vc tX12_rests [(26, [true, true, true, true, false])] 40 okM kX12_rests rfl ?_
  refine ⟨_, c_min, ?_⟩
  rw [show inB (nI 0) (nI 99) v = okH v from rfl]
  rintro v1 h1 ⟨rfl, rfl⟩
  refine ⟨fun c => OU (b2_n0.mp c) 10 0 (0, []) _ rfl rfl (Nat.le_refl _) (fun _ => rfl) a0.clr, fun c => ?_⟩
  unfold aRests nRests
  have c' : ¬ okH v = true := by rw [b2_0.mp (nn c)]; decide
  rw [if_neg c', if_neg c']
  exact ⟨rfl, a0⟩
/-! divisors -/
/-- Euclid's rounds in numbers; whether f are enough -/
def gF : Nat → Nat → Nat → Nat
  | 0, a, _ => a
  | f + 1, a, b => if b = 0 then a else gF f b (a % b)
def Tm : Nat → Nat → Nat → Prop
  | 0, _, b => b = 0
  | f + 1, a, b => b = 0 ∨ Tm f b (a % b)
theorem Tm_2 : ∀ k a b, b < 2 ^ k → Tm (2 * k) a b
  | 0, a, b, h => by
    have : b = 0 := by rw [Nat.pow_zero] at h; omega
    exact this
  | k + 1, a, b, h => by
    show Tm (2 * k + 1 + 1) a b
    by_cases c : b = 0
    · exact Or.inl c
    · right
      by_cases c2 : a % b = 0
      · exact Or.inl c2
      · right
        refine Tm_2 k (a % b) (b % (a % b)) ?_
        have h1 : a % b < b := Nat.mod_lt _ (by omega)
        have h2 : b % (a % b) < a % b := Nat.mod_lt _ (by omega)
        have h3 : a % b + b % (a % b) ≤ b := by
          have e := Nat.div_add_mod b (a % b)
          have : 1 ≤ b / (a % b) := Nat.div_pos (by omega) (by omega)
          have : a % b * 1 ≤ a % b * (b / (a % b)) := Nat.mul_le_mul_left _ this
          omega
        rw [Nat.pow_succ] at h
        omega
theorem Tm_up : ∀ f d a b, Tm f a b → Tm (f + d) a b
  | 0, 0, _, _, h => h
  | 0, d + 1, a, b, h => by rw [Nat.zero_add]; exact Or.inl h
  | f + 1, d, a, b, h => by
    rw [Nat.succ_add]
    rcases h with h | h
    · exact Or.inl h
    · exact Or.inr (Tm_up f d _ _ h)
theorem gF_up : ∀ f d a b, Tm f a b → gF (f + d) a b = gF f a b
  | 0, 0, _, _, _ => rfl
  | 0, d + 1, a, b, h => by
    have h' : b = 0 := h
    have e : gF (d + 1) a b = if b = 0 then a else gF d b (a % b) := rfl
    rw [Nat.zero_add, e, if_pos h']; rfl
  | f + 1, d, a, b, h => by
    rw [Nat.succ_add, gF, gF]
    rcases h with h | h
    · rw [if_pos h, if_pos h]
    · split
      · rfl
      · exact gF_up f d _ _ h
theorem cdF_gF : ∀ f a b, a < 2 ^ 63 → b < 2 ^ 63 → cdF f (lN a) (lN b) = lN (gF f a b)
  | 0, a, b, _, _ => rfl
  | f + 1, a, b, ha, hb => by
    rw [cdF, gF]
    by_cases c : b = 0
    · subst c; rw [if_pos (show lN 0 = 0 from rfl), if_pos rfl]
    · have : ¬ lN b = 0 := fun w => c ((pk_lEQ hb (by decide)).mp (show lN b = lN 0 from w))
      rw [if_neg this, if_neg c, pk_lRem ha (by omega) hb]
      exact cdF_gF f b (a % b) hb (by have := Nat.mod_lt a (show b > 0 by omega); omega)
theorem gF_pos : ∀ f a b, Tm f a b → 0 < a ∨ 0 < b → 0 < gF f a b ∧ gF f a b ≤ a + b
  | 0, a, b, h, hp => by
    have h' : b = 0 := h
    show 0 < a ∧ a ≤ a + b
    omega
  | f + 1, a, b, h, hp => by
    rw [gF]
    by_cases c : b = 0
    · rw [if_pos c]; omega
    · rw [if_neg c]
      rcases h with h | h
      · exact absurd h c
      · have := gF_pos f b (a % b) h (Or.inl (by omega))
        have h2 := Nat.mod_le a b
        omega
theorem cm_gF {a b : Nat} (ha : a < 2 ^ 40) (hb : b < 2 ^ 40) (h0 : 0 < b) : cmD (lN a) (lN b) = lN (gF 100 a b) ∧ Tm 100 a b ∧ 0 < gF 100 a b ∧ gF 100 a b < 2 ^ 42 := by
  have t : Tm 100 a b := Tm_up 80 20 a b (Tm_2 40 a b hb)
  have p := gF_pos 100 a b t (Or.inr h0)
  have lt : gF 100 a b < 2 ^ 42 := by omega
  refine ⟨?_, t, p.1, lt⟩
  unfold cmD
  rw [cdF_gF 100 a b (by omega) (by omega), if_neg]
  rw [pk_lLT (by omega) (by decide)]
  omega
theorem c_common : ∀ (f K a b : Nat) (h : Hp), Tm f a b → a < 2 ^ 63 → b < 2 ^ 63 → f ≤ K → Ct alM mX12_common K [vL (lN a), vL (lN b)] h (fun v h' => v = vL (lN (gF f a b)) ∧ h' = h) := by
  intro f
  induction f with
  | zero =>
    intro K a b h t ha hb hK
    have t' : b = 0 := t
    subst t'
    refine ct_vc tX12_common [] 20 okM kX12_common rfl ⟨fun c => absurd (lg_0.mpr rfl) c, fun _ => ⟨rfl, rfl⟩⟩
  | succ f ih =>
    intro K a b h t ha hb hK
    obtain ⟨K, rfl⟩ : ∃ K', K = K' + 1 := ⟨K - 1, by omega⟩
    by_cases c : b = 0
    · subst c
      refine ct_vc tX12_common [] 20 okM kX12_common rfl ⟨fun c => absurd (lg_0.mpr rfl) c, fun _ => ⟨?_, rfl⟩⟩
      rw [gF, if_pos rfl]
    · have nz : ¬ lN b = 0 := fun w => c ((pk_lEQ hb (by decide)).mp (show lN b = lN 0 from w))
      have t' : Tm f b (a % b) := t.resolve_left c
      have hr : a % b < 2 ^ 63 := by have := Nat.mod_lt a (show b > 0 by omega); omega
      refine ct_vc tX12_common [] 20 okM kX12_common rfl ⟨fun _ => ⟨nz, ?_⟩, fun q => absurd (lg_0.mp (nn q)) nz⟩
      refine ⟨_, ct_cv (ih K b (a % b) h t' hb hr (by omega)) (congrArg (fun x => [vL (lN b), vL x]) (pk_lRem ha (by omega) hb)) rfl, ?_⟩
      rintro v h' ⟨rfl, rfl⟩
      refine ⟨?_, rfl⟩
      rw [gF, if_neg c]
theorem c_tellPart {B K a b : Nat} {h : Hp} {g : GS} (m : MI B h g) (ha : a < 2 ^ 40) (hb : b < 2 ^ 40) (h0 : 0 < b) : Ct alM mX12_tellPart (K + 101) [vR 12 0, vL (lN a), vL (lN b)] h (fun _ h' => MI B h' (uL g (frL (lN a) (lN b)))) := by
  obtain ⟨c1, c2, c3, c4⟩ := cm_gF ha hb h0
  have nz : ¬ lN (gF 100 a b) = 0 := fun w => by
    have := (pk_lEQ (by omega) (by decide)).mp (show lN (gF 100 a b) = lN 0 from w)
    omega
  refine ct_vc tX12_tellPart [] 40 okM kX12_tellPart rfl ?_
  refine ⟨_, c_common 100 (K + 100) a b h c2 (by omega) (by omega) (by omega), ?_⟩
  rintro v h1 ⟨rfl, rfl⟩
  refine ⟨nz, _, c_tellR m.clr (by show (0 : Nat) < 16; decide), ?_⟩
  rintro v h2 ⟨a2, -⟩
  refine ⟨nz, _, c_tellR a2 (by show (1 : Nat) < 16; decide), ?_⟩
  rintro v h3 ⟨a3, -⟩
  unfold frL
  rw [c1]
  exact a3
